theorem dX11_tellsPeriod_13 : decode cX11_tellsPeriod 13 = .ok (.iload_n 1, 1) := by decide +kernel
theorem dX11_tellsPeriod_14 : decode cX11_tellsPeriod 14 = .ok (.invokevirtual 50, 3) := by decide +kernel
theorem dX11_tellsPeriod_17 : decode cX11_tellsPeriod 17 = .ok (.aload_n 0, 1) := by decide +kernel
theorem dX11_tellsPeriod_18 : decode cX11_tellsPeriod 18 = .ok (.getfield 7, 3) := by decide +kernel
theorem dX11_tellsPeriod_21 : decode cX11_tellsPeriod 21 = .ok (.iconst 0, 1) := by decide +kernel
theorem dX11_tellsPeriod_22 : decode cX11_tellsPeriod 22 = .ok (.iaload, 1) := by decide +kernel
theorem dX11_tellsPeriod_23 : decode cX11_tellsPeriod 23 = .ok (.invokestatic 95, 3) := by decide +kernel
theorem dX11_tellsPeriod_26 : decode cX11_tellsPeriod 26 = .ok (.goto 8, 3) := by decide +kernel
theorem dX11_tellsPeriod_29 : decode cX11_tellsPeriod 29 = .ok (.aload_n 0, 1) := by decide +kernel
theorem dX11_tellsPeriod_30 : decode cX11_tellsPeriod 30 = .ok (.iconst 1, 1) := by decide +kernel
theorem dX11_tellsPeriod_31 : decode cX11_tellsPeriod 31 = .ok (.invokevirtual 127, 3) := by decide +kernel
theorem dX11_tellsPeriod_34 : decode cX11_tellsPeriod 34 = .ok (.ireturn, 1) := by decide +kernel
theorem dX11_periodLength_0 : decode cX11_periodLength 0 = .ok (.aload_n 0, 1) := by decide +kernel
theorem dX11_periodLength_1 : decode cX11_periodLength 1 = .ok (.iload_n 1, 1) := by decide +kernel
theorem dX11_periodLength_2 : decode cX11_periodLength 2 = .ok (.invokevirtual 218, 3) := by decide +kernel
theorem dX11_periodLength_5 : decode cX11_periodLength 5 = .ok (.ireturn, 1) := by decide +kernel
theorem dX11_periodByOrder_0 : decode cX11_periodByOrder 0 = .ok (.aload_n 0, 1) := by decide +kernel
theorem dX11_periodByOrder_1 : decode cX11_periodByOrder 1 = .ok (.iload_n 1, 1) := by decide +kernel
theorem dX11_periodByOrder_2 : decode cX11_periodByOrder 2 = .ok (.invokevirtual 218, 3) := by decide +kernel
theorem dX11_periodByOrder_5 : decode cX11_periodByOrder 5 = .ok (.ireturn, 1) := by decide +kernel
theorem dX11_digitBehind_0 : decode cX11_digitBehind 0 = .ok (.aload_n 0, 1) := by decide +kernel
theorem dX11_digitBehind_1 : decode cX11_digitBehind 1 = .ok (.iconst 0, 1) := by decide +kernel
theorem dX11_digitBehind_2 : decode cX11_digitBehind 2 = .ok (.putfield 34, 3) := by decide +kernel
theorem dX11_digitBehind_5 : decode cX11_digitBehind 5 = .ok (.iload_n 1, 1) := by decide +kernel
theorem dX11_digitBehind_6 : decode cX11_digitBehind 6 = .ok (.invokestatic 42, 3) := by decide +kernel
theorem dX11_digitBehind_9 : decode cX11_digitBehind 9 = .ok (.ifCond .ne 9, 3) := by decide +kernel
theorem dX11_digitBehind_12 : decode cX11_digitBehind 12 = .ok (.aload_n 0, 1) := by decide +kernel
theorem dX11_digitBehind_13 : decode cX11_digitBehind 13 = .ok (.iconst 1, 1) := by decide +kernel
theorem dX11_digitBehind_14 : decode cX11_digitBehind 14 = .ok (.invokevirtual 127, 3) := by decide +kernel
theorem dX11_digitBehind_17 : decode cX11_digitBehind 17 = .ok (.ireturn, 1) := by decide +kernel
theorem dX11_digitBehind_18 : decode cX11_digitBehind 18 = .ok (.iload_n 2, 1) := by decide +kernel
theorem dX11_digitBehind_19 : decode cX11_digitBehind 19 = .ok (.iconst 0, 1) := by decide +kernel
theorem dX11_digitBehind_20 : decode cX11_digitBehind 20 = .ok (.sipush 2000, 3) := by decide +kernel
theorem dX11_digitBehind_23 : decode cX11_digitBehind 23 = .ok (.invokestatic 38, 3) := by decide +kernel
theorem dX11_digitBehind_26 : decode cX11_digitBehind 26 = .ok (.ifCond .eq 12, 3) := by decide +kernel
theorem dX11_digitBehind_29 : decode cX11_digitBehind 29 = .ok (.aload_n 0, 1) := by decide +kernel
theorem dX11_digitBehind_30 : decode cX11_digitBehind 30 = .ok (.iload_n 1, 1) := by decide +kernel
theorem dX11_digitBehind_31 : decode cX11_digitBehind 31 = .ok (.iload_n 2, 1) := by decide +kernel
theorem dX11_digitBehind_32 : decode cX11_digitBehind 32 = .ok (.invokevirtual 101, 3) := by decide +kernel
theorem dX11_digitBehind_35 : decode cX11_digitBehind 35 = .ok (.goto 8, 3) := by decide +kernel
theorem dX11_digitBehind_38 : decode cX11_digitBehind 38 = .ok (.aload_n 0, 1) := by decide +kernel
theorem dX11_digitBehind_39 : decode cX11_digitBehind 39 = .ok (.iconst 2, 1) := by decide +kernel
theorem dX11_digitBehind_40 : decode cX11_digitBehind 40 = .ok (.invokevirtual 127, 3) := by decide +kernel
theorem dX11_digitBehind_43 : decode cX11_digitBehind 43 = .ok (.ireturn, 1) := by decide +kernel
theorem dX11_shortestBase_0 : decode cX11_shortestBase 0 = .ok (.aload_n 0, 1) := by decide +kernel
theorem dX11_shortestBase_1 : decode cX11_shortestBase 1 = .ok (.iconst 0, 1) := by decide +kernel
theorem dX11_shortestBase_2 : decode cX11_shortestBase 2 = .ok (.putfield 34, 3) := by decide +kernel
theorem dX11_shortestBase_5 : decode cX11_shortestBase 5 = .ok (.iload_n 1, 1) := by decide +kernel
theorem dX11_shortestBase_6 : decode cX11_shortestBase 6 = .ok (.invokestatic 42, 3) := by decide +kernel
theorem dX11_shortestBase_9 : decode cX11_shortestBase 9 = .ok (.ifCond .eq 11, 3) := by decide +kernel
theorem dX11_shortestBase_12 : decode cX11_shortestBase 12 = .ok (.aload_n 0, 1) := by decide +kernel
theorem dX11_shortestBase_13 : decode cX11_shortestBase 13 = .ok (.iload_n 1, 1) := by decide +kernel
theorem dX11_shortestBase_14 : decode cX11_shortestBase 14 = .ok (.invokevirtual 221, 3) := by decide +kernel
theorem dX11_shortestBase_17 : decode cX11_shortestBase 17 = .ok (.goto 8, 3) := by decide +kernel
theorem dX11_shortestBase_20 : decode cX11_shortestBase 20 = .ok (.aload_n 0, 1) := by decide +kernel
theorem dX11_shortestBase_21 : decode cX11_shortestBase 21 = .ok (.iconst 1, 1) := by decide +kernel
theorem dX11_shortestBase_22 : decode cX11_shortestBase 22 = .ok (.invokevirtual 127, 3) := by decide +kernel
theorem dX11_shortestBase_25 : decode cX11_shortestBase 25 = .ok (.ireturn, 1) := by decide +kernel
theorem dX11_writtenLength_0 : decode cX11_writtenLength 0 = .ok (.aload_n 0, 1) := by decide +kernel
theorem dX11_writtenLength_1 : decode cX11_writtenLength 1 = .ok (.iconst 0, 1) := by decide +kernel
theorem dX11_writtenLength_2 : decode cX11_writtenLength 2 = .ok (.putfield 34, 3) := by decide +kernel
theorem dX11_writtenLength_5 : decode cX11_writtenLength 5 = .ok (.iload_n 1, 1) := by decide +kernel
theorem dX11_writtenLength_6 : decode cX11_writtenLength 6 = .ok (.invokestatic 42, 3) := by decide +kernel
theorem dX11_writtenLength_9 : decode cX11_writtenLength 9 = .ok (.ifCond .eq 11, 3) := by decide +kernel
theorem dX11_writtenLength_12 : decode cX11_writtenLength 12 = .ok (.aload_n 0, 1) := by decide +kernel
theorem dX11_writtenLength_13 : decode cX11_writtenLength 13 = .ok (.iload_n 1, 1) := by decide +kernel
theorem dX11_writtenLength_14 : decode cX11_writtenLength 14 = .ok (.invokevirtual 224, 3) := by decide +kernel
theorem dX11_writtenLength_17 : decode cX11_writtenLength 17 = .ok (.goto 8, 3) := by decide +kernel
theorem dX11_writtenLength_20 : decode cX11_writtenLength 20 = .ok (.aload_n 0, 1) := by decide +kernel
theorem dX11_writtenLength_21 : decode cX11_writtenLength 21 = .ok (.iconst 1, 1) := by decide +kernel
theorem dX11_writtenLength_22 : decode cX11_writtenLength 22 = .ok (.invokevirtual 127, 3) := by decide +kernel
theorem dX11_writtenLength_25 : decode cX11_writtenLength 25 = .ok (.ireturn, 1) := by decide +kernel
theorem dX11_writtenAt_0 : decode cX11_writtenAt 0 = .ok (.aload_n 0, 1) := by decide +kernel
theorem dX11_writtenAt_1 : decode cX11_writtenAt 1 = .ok (.iconst 0, 1) := by decide +kernel
theorem dX11_writtenAt_2 : decode cX11_writtenAt 2 = .ok (.putfield 34, 3) := by decide +kernel
theorem dX11_writtenAt_5 : decode cX11_writtenAt 5 = .ok (.iload_n 1, 1) := by decide +kernel
theorem dX11_writtenAt_6 : decode cX11_writtenAt 6 = .ok (.invokestatic 42, 3) := by decide +kernel
theorem dX11_writtenAt_9 : decode cX11_writtenAt 9 = .ok (.ifCond .eq 27, 3) := by decide +kernel
theorem dX11_writtenAt_12 : decode cX11_writtenAt 12 = .ok (.iload_n 2, 1) := by decide +kernel
theorem dX11_writtenAt_13 : decode cX11_writtenAt 13 = .ok (.iconst 0, 1) := by decide +kernel
theorem dX11_writtenAt_14 : decode cX11_writtenAt 14 = .ok (.aload_n 0, 1) := by decide +kernel
theorem dX11_writtenAt_15 : decode cX11_writtenAt 15 = .ok (.iload_n 1, 1) := by decide +kernel
theorem dX11_writtenAt_16 : decode cX11_writtenAt 16 = .ok (.invokevirtual 224, 3) := by decide +kernel
theorem dX11_writtenAt_19 : decode cX11_writtenAt 19 = .ok (.iconst 1, 1) := by decide +kernel
theorem dX11_writtenAt_20 : decode cX11_writtenAt 20 = .ok (.isub, 1) := by decide +kernel
theorem dX11_writtenAt_21 : decode cX11_writtenAt 21 = .ok (.invokestatic 38, 3) := by decide +kernel
theorem dX11_writtenAt_24 : decode cX11_writtenAt 24 = .ok (.ifCond .eq 12, 3) := by decide +kernel
theorem dX11_writtenAt_27 : decode cX11_writtenAt 27 = .ok (.aload_n 0, 1) := by decide +kernel
theorem dX11_writtenAt_28 : decode cX11_writtenAt 28 = .ok (.iload_n 1, 1) := by decide +kernel
theorem dX11_writtenAt_29 : decode cX11_writtenAt 29 = .ok (.iload_n 2, 1) := by decide +kernel
theorem dX11_writtenAt_30 : decode cX11_writtenAt 30 = .ok (.invokevirtual 227, 3) := by decide +kernel
theorem dX11_writtenAt_33 : decode cX11_writtenAt 33 = .ok (.goto 8, 3) := by decide +kernel
theorem dX11_writtenAt_36 : decode cX11_writtenAt 36 = .ok (.aload_n 0, 1) := by decide +kernel
theorem dX11_writtenAt_37 : decode cX11_writtenAt 37 = .ok (.iconst 1, 1) := by decide +kernel
theorem dX11_writtenAt_38 : decode cX11_writtenAt 38 = .ok (.invokevirtual 127, 3) := by decide +kernel
theorem dX11_writtenAt_41 : decode cX11_writtenAt 41 = .ok (.ireturn, 1) := by decide +kernel
theorem dX11_hasColumns_0 : decode cX11_hasColumns 0 = .ok (.aload_n 0, 1) := by decide +kernel
theorem dX11_hasColumns_1 : decode cX11_hasColumns 1 = .ok (.iload_n 1, 1) := by decide +kernel
theorem dX11_hasColumns_2 : decode cX11_hasColumns 2 = .ok (.iload_n 2, 1) := by decide +kernel
theorem dX11_hasColumns_3 : decode cX11_hasColumns 3 = .ok (.invokestatic 137, 3) := by decide +kernel
theorem dX11_hasColumns_6 : decode cX11_hasColumns 6 = .ok (.ifCond .eq 7, 3) := by decide +kernel
theorem dX11_hasColumns_9 : decode cX11_hasColumns 9 = .ok (.iconst 0, 1) := by decide +kernel
theorem dX11_hasColumns_10 : decode cX11_hasColumns 10 = .ok (.goto 4, 3) := by decide +kernel
theorem dX11_hasColumns_13 : decode cX11_hasColumns 13 = .ok (.iconst 1, 1) := by decide +kernel
theorem dX11_hasColumns_14 : decode cX11_hasColumns 14 = .ok (.putfield 34, 3) := by decide +kernel
theorem dX11_hasColumns_17 : decode cX11_hasColumns 17 = .ok (.aload_n 0, 1) := by decide +kernel
theorem dX11_hasColumns_18 : decode cX11_hasColumns 18 = .ok (.getfield 34, 3) := by decide +kernel
theorem dX11_hasColumns_21 : decode cX11_hasColumns 21 = .ok (.ifCond .ne 9, 3) := by decide +kernel
theorem dX11_hasColumns_24 : decode cX11_hasColumns 24 = .ok (.aload_n 0, 1) := by decide +kernel
theorem dX11_hasColumns_25 : decode cX11_hasColumns 25 = .ok (.iload_n 1, 1) := by decide +kernel
theorem dX11_hasColumns_26 : decode cX11_hasColumns 26 = .ok (.iload_n 2, 1) := by decide +kernel
theorem dX11_hasColumns_27 : decode cX11_hasColumns 27 = .ok (.invokevirtual 230, 3) := by decide +kernel
theorem dX11_hasColumns_30 : decode cX11_hasColumns 30 = .ok (.aload_n 0, 1) := by decide +kernel
theorem dX11_hasColumns_31 : decode cX11_hasColumns 31 = .ok (.getfield 34, 3) := by decide +kernel
theorem dX11_hasColumns_34 : decode cX11_hasColumns 34 = .ok (.ifCond .ne 7, 3) := by decide +kernel
theorem dX11_hasColumns_37 : decode cX11_hasColumns 37 = .ok (.iconst 1, 1) := by decide +kernel
theorem dX11_hasColumns_38 : decode cX11_hasColumns 38 = .ok (.goto 4, 3) := by decide +kernel
theorem dX11_hasColumns_41 : decode cX11_hasColumns 41 = .ok (.iconst 0, 1) := by decide +kernel
theorem dX11_hasColumns_42 : decode cX11_hasColumns 42 = .ok (.ireturn, 1) := by decide +kernel
theorem dX11_carries_0 : decode cX11_carries 0 = .ok (.aload_n 0, 1) := by decide +kernel
theorem dX11_carries_1 : decode cX11_carries 1 = .ok (.iload_n 1, 1) := by decide +kernel
theorem dX11_carries_2 : decode cX11_carries 2 = .ok (.iload_n 2, 1) := by decide +kernel
theorem dX11_carries_3 : decode cX11_carries 3 = .ok (.invokevirtual 234, 3) := by decide +kernel
theorem dX11_carries_6 : decode cX11_carries 6 = .ok (.ifCond .eq 10, 3) := by decide +kernel
theorem dX11_carries_9 : decode cX11_carries 9 = .ok (.aload_n 0, 1) := by decide +kernel
theorem dX11_carries_10 : decode cX11_carries 10 = .ok (.getfield 110, 3) := by decide +kernel
theorem dX11_carries_13 : decode cX11_carries 13 = .ok (.goto 4, 3) := by decide +kernel
theorem dX11_carries_16 : decode cX11_carries 16 = .ok (.iconst 0, 1) := by decide +kernel
theorem dX11_carries_17 : decode cX11_carries 17 = .ok (.ireturn, 1) := by decide +kernel
theorem dX11_longestChain_0 : decode cX11_longestChain 0 = .ok (.aload_n 0, 1) := by decide +kernel
theorem dX11_longestChain_1 : decode cX11_longestChain 1 = .ok (.iload_n 1, 1) := by decide +kernel
theorem dX11_longestChain_2 : decode cX11_longestChain 2 = .ok (.iload_n 2, 1) := by decide +kernel
theorem dX11_longestChain_3 : decode cX11_longestChain 3 = .ok (.invokevirtual 234, 3) := by decide +kernel
theorem dX11_longestChain_6 : decode cX11_longestChain 6 = .ok (.ifCond .eq 10, 3) := by decide +kernel
theorem dX11_longestChain_9 : decode cX11_longestChain 9 = .ok (.aload_n 0, 1) := by decide +kernel
theorem dX11_longestChain_10 : decode cX11_longestChain 10 = .ok (.getfield 113, 3) := by decide +kernel
theorem dX11_longestChain_13 : decode cX11_longestChain 13 = .ok (.goto 4, 3) := by decide +kernel
theorem dX11_longestChain_16 : decode cX11_longestChain 16 = .ok (.iconst 0, 1) := by decide +kernel
theorem dX11_longestChain_17 : decode cX11_longestChain 17 = .ok (.ireturn, 1) := by decide +kernel
theorem dX11_sumDigit_0 : decode cX11_sumDigit 0 = .ok (.aload_n 0, 1) := by decide +kernel
theorem dX11_sumDigit_1 : decode cX11_sumDigit 1 = .ok (.iload_n 1, 1) := by decide +kernel
theorem dX11_sumDigit_2 : decode cX11_sumDigit 2 = .ok (.iload_n 2, 1) := by decide +kernel
theorem dX11_sumDigit_3 : decode cX11_sumDigit 3 = .ok (.invokevirtual 234, 3) := by decide +kernel
theorem dX11_sumDigit_6 : decode cX11_sumDigit 6 = .ok (.ifCond .ne 5, 3) := by decide +kernel
theorem dX11_sumDigit_9 : decode cX11_sumDigit 9 = .ok (.iconst 0, 1) := by decide +kernel
theorem dX11_sumDigit_10 : decode cX11_sumDigit 10 = .ok (.ireturn, 1) := by decide +kernel
theorem dX11_sumDigit_11 : decode cX11_sumDigit 11 = .ok (.iload_n 3, 1) := by decide +kernel
theorem dX11_sumDigit_12 : decode cX11_sumDigit 12 = .ok (.iconst 0, 1) := by decide +kernel
theorem dX11_sumDigit_13 : decode cX11_sumDigit 13 = .ok (.aload_n 0, 1) := by decide +kernel
theorem dX11_sumDigit_14 : decode cX11_sumDigit 14 = .ok (.getfield 107, 3) := by decide +kernel
theorem dX11_sumDigit_17 : decode cX11_sumDigit 17 = .ok (.iconst 1, 1) := by decide +kernel
theorem dX11_sumDigit_18 : decode cX11_sumDigit 18 = .ok (.isub, 1) := by decide +kernel
theorem dX11_sumDigit_19 : decode cX11_sumDigit 19 = .ok (.invokestatic 38, 3) := by decide +kernel
theorem dX11_sumDigit_22 : decode cX11_sumDigit 22 = .ok (.ifCond .eq 12, 3) := by decide +kernel
theorem dX11_sumDigit_25 : decode cX11_sumDigit 25 = .ok (.aload_n 0, 1) := by decide +kernel
theorem dX11_sumDigit_26 : decode cX11_sumDigit 26 = .ok (.getfield 31, 3) := by decide +kernel
theorem dX11_sumDigit_29 : decode cX11_sumDigit 29 = .ok (.iload_n 3, 1) := by decide +kernel
theorem dX11_sumDigit_30 : decode cX11_sumDigit 30 = .ok (.iaload, 1) := by decide +kernel
theorem dX11_sumDigit_31 : decode cX11_sumDigit 31 = .ok (.goto 8, 3) := by decide +kernel
theorem dX11_sumDigit_34 : decode cX11_sumDigit 34 = .ok (.aload_n 0, 1) := by decide +kernel
theorem dX11_sumDigit_35 : decode cX11_sumDigit 35 = .ok (.iconst 1, 1) := by decide +kernel
theorem dX11_sumDigit_36 : decode cX11_sumDigit 36 = .ok (.invokevirtual 127, 3) := by decide +kernel
theorem dX11_sumDigit_39 : decode cX11_sumDigit 39 = .ok (.ireturn, 1) := by decide +kernel
theorem dX11_sumByColumns_0 : decode cX11_sumByColumns 0 = .ok (.aload_n 0, 1) := by decide +kernel
theorem dX11_sumByColumns_1 : decode cX11_sumByColumns 1 = .ok (.iconst 0, 1) := by decide +kernel
theorem dX11_sumByColumns_2 : decode cX11_sumByColumns 2 = .ok (.putfield 34, 3) := by decide +kernel
theorem dX11_sumByColumns_5 : decode cX11_sumByColumns 5 = .ok (.iload_n 1, 1) := by decide +kernel
theorem dX11_sumByColumns_6 : decode cX11_sumByColumns 6 = .ok (.iload_n 2, 1) := by decide +kernel
theorem dX11_sumByColumns_7 : decode cX11_sumByColumns 7 = .ok (.invokestatic 137, 3) := by decide +kernel
theorem dX11_sumByColumns_10 : decode cX11_sumByColumns 10 = .ok (.ifCond .eq 19, 3) := by decide +kernel
theorem dX11_sumByColumns_13 : decode cX11_sumByColumns 13 = .ok (.aload_n 0, 1) := by decide +kernel
theorem dX11_sumByColumns_14 : decode cX11_sumByColumns 14 = .ok (.iload_n 1, 1) := by decide +kernel
theorem dX11_sumByColumns_15 : decode cX11_sumByColumns 15 = .ok (.invokevirtual 82, 3) := by decide +kernel
theorem dX11_sumByColumns_18 : decode cX11_sumByColumns 18 = .ok (.i2l, 1) := by decide +kernel
theorem dX11_sumByColumns_19 : decode cX11_sumByColumns 19 = .ok (.aload_n 0, 1) := by decide +kernel
theorem dX11_sumByColumns_20 : decode cX11_sumByColumns 20 = .ok (.iload_n 2, 1) := by decide +kernel
theorem dX11_sumByColumns_21 : decode cX11_sumByColumns 21 = .ok (.invokevirtual 82, 3) := by decide +kernel
theorem dX11_sumByColumns_24 : decode cX11_sumByColumns 24 = .ok (.i2l, 1) := by decide +kernel
theorem dX11_sumByColumns_25 : decode cX11_sumByColumns 25 = .ok (.ladd, 1) := by decide +kernel
theorem dX11_sumByColumns_26 : decode cX11_sumByColumns 26 = .ok (.goto 9, 3) := by decide +kernel
theorem dX11_sumByColumns_29 : decode cX11_sumByColumns 29 = .ok (.aload_n 0, 1) := by decide +kernel
theorem dX11_sumByColumns_30 : decode cX11_sumByColumns 30 = .ok (.iconst 1, 1) := by decide +kernel
theorem dX11_sumByColumns_31 : decode cX11_sumByColumns 31 = .ok (.invokevirtual 127, 3) := by decide +kernel
theorem dX11_sumByColumns_34 : decode cX11_sumByColumns 34 = .ok (.i2l, 1) := by decide +kernel
theorem dX11_sumByColumns_35 : decode cX11_sumByColumns 35 = .ok (.lreturn, 1) := by decide +kernel
theorem dX11_readIn_0 : decode cX11_readIn 0 = .ok (.aload_n 0, 1) := by decide +kernel
theorem dX11_readIn_1 : decode cX11_readIn 1 = .ok (.iconst 0, 1) := by decide +kernel
theorem dX11_readIn_2 : decode cX11_readIn 2 = .ok (.putfield 34, 3) := by decide +kernel
theorem dX11_readIn_5 : decode cX11_readIn 5 = .ok (.iload_n 1, 1) := by decide +kernel
theorem dX11_readIn_6 : decode cX11_readIn 6 = .ok (.invokestatic 42, 3) := by decide +kernel
theorem dX11_readIn_9 : decode cX11_readIn 9 = .ok (.ifCond .ne 10, 3) := by decide +kernel
theorem dX11_readIn_12 : decode cX11_readIn 12 = .ok (.aload_n 0, 1) := by decide +kernel
theorem dX11_readIn_13 : decode cX11_readIn 13 = .ok (.iconst 1, 1) := by decide +kernel
theorem dX11_readIn_14 : decode cX11_readIn 14 = .ok (.invokevirtual 127, 3) := by decide +kernel
theorem dX11_readIn_17 : decode cX11_readIn 17 = .ok (.i2l, 1) := by decide +kernel
theorem dX11_readIn_18 : decode cX11_readIn 18 = .ok (.lreturn, 1) := by decide +kernel
theorem dX11_readIn_19 : decode cX11_readIn 19 = .ok (.iload_n 2, 1) := by decide +kernel
theorem dX11_readIn_20 : decode cX11_readIn 20 = .ok (.invokestatic 124, 3) := by decide +kernel
theorem dX11_readIn_23 : decode cX11_readIn 23 = .ok (.ifCond .eq 12, 3) := by decide +kernel
theorem dX11_readIn_26 : decode cX11_readIn 26 = .ok (.aload_n 0, 1) := by decide +kernel
theorem dX11_readIn_27 : decode cX11_readIn 27 = .ok (.iload_n 1, 1) := by decide +kernel
theorem dX11_readIn_28 : decode cX11_readIn 28 = .ok (.iload_n 2, 1) := by decide +kernel
theorem dX11_readIn_29 : decode cX11_readIn 29 = .ok (.invokevirtual 237, 3) := by decide +kernel
theorem dX11_readIn_32 : decode cX11_readIn 32 = .ok (.goto 9, 3) := by decide +kernel
theorem dX11_readIn_35 : decode cX11_readIn 35 = .ok (.aload_n 0, 1) := by decide +kernel
theorem dX11_readIn_36 : decode cX11_readIn 36 = .ok (.iconst 2, 1) := by decide +kernel
theorem dX11_readIn_37 : decode cX11_readIn 37 = .ok (.invokevirtual 127, 3) := by decide +kernel
theorem dX11_readIn_40 : decode cX11_readIn 40 = .ok (.i2l, 1) := by decide +kernel
theorem dX11_readIn_41 : decode cX11_readIn 41 = .ok (.lreturn, 1) := by decide +kernel
theorem dX11_whyNoSum_0 : decode cX11_whyNoSum 0 = .ok (.aload_n 0, 1) := by decide +kernel
theorem dX11_whyNoSum_1 : decode cX11_whyNoSum 1 = .ok (.iconst 0, 1) := by decide +kernel
theorem dX11_whyNoSum_2 : decode cX11_whyNoSum 2 = .ok (.putfield 34, 3) := by decide +kernel
theorem dX11_whyNoSum_5 : decode cX11_whyNoSum 5 = .ok (.iload_n 1, 1) := by decide +kernel
theorem dX11_whyNoSum_6 : decode cX11_whyNoSum 6 = .ok (.iload_n 2, 1) := by decide +kernel
theorem dX11_whyNoSum_7 : decode cX11_whyNoSum 7 = .ok (.invokestatic 137, 3) := by decide +kernel
theorem dX11_whyNoSum_10 : decode cX11_whyNoSum 10 = .ok (.ifCond .eq 13, 3) := by decide +kernel
theorem dX11_whyNoSum_13 : decode cX11_whyNoSum 13 = .ok (.aload_n 0, 1) := by decide +kernel
theorem dX11_whyNoSum_14 : decode cX11_whyNoSum 14 = .ok (.iload_n 1, 1) := by decide +kernel
theorem dX11_whyNoSum_15 : decode cX11_whyNoSum 15 = .ok (.iload_n 2, 1) := by decide +kernel
theorem dX11_whyNoSum_16 : decode cX11_whyNoSum 16 = .ok (.iconst 1, 1) := by decide +kernel
theorem dX11_whyNoSum_17 : decode cX11_whyNoSum 17 = .ok (.invokevirtual 120, 3) := by decide +kernel
theorem dX11_whyNoSum_20 : decode cX11_whyNoSum 20 = .ok (.goto 8, 3) := by decide +kernel
theorem dX11_whyNoSum_23 : decode cX11_whyNoSum 23 = .ok (.aload_n 0, 1) := by decide +kernel
theorem dX11_whyNoSum_24 : decode cX11_whyNoSum 24 = .ok (.iconst 1, 1) := by decide +kernel
theorem dX11_whyNoSum_25 : decode cX11_whyNoSum 25 = .ok (.invokevirtual 127, 3) := by decide +kernel
theorem dX11_whyNoSum_28 : decode cX11_whyNoSum 28 = .ok (.ireturn, 1) := by decide +kernel
theorem dX11_periodOfSum_0 : decode cX11_periodOfSum 0 = .ok (.aload_n 0, 1) := by decide +kernel
theorem dX11_periodOfSum_1 : decode cX11_periodOfSum 1 = .ok (.iconst 0, 1) := by decide +kernel
theorem dX11_periodOfSum_2 : decode cX11_periodOfSum 2 = .ok (.putfield 34, 3) := by decide +kernel
theorem dX11_periodOfSum_5 : decode cX11_periodOfSum 5 = .ok (.iload_n 1, 1) := by decide +kernel
theorem dX11_periodOfSum_6 : decode cX11_periodOfSum 6 = .ok (.iload_n 2, 1) := by decide +kernel
theorem dX11_periodOfSum_7 : decode cX11_periodOfSum 7 = .ok (.invokestatic 137, 3) := by decide +kernel
theorem dX11_periodOfSum_10 : decode cX11_periodOfSum 10 = .ok (.ifCond .eq 12, 3) := by decide +kernel
theorem dX11_periodOfSum_13 : decode cX11_periodOfSum 13 = .ok (.aload_n 0, 1) := by decide +kernel
theorem dX11_periodOfSum_14 : decode cX11_periodOfSum 14 = .ok (.iload_n 1, 1) := by decide +kernel
theorem dX11_periodOfSum_15 : decode cX11_periodOfSum 15 = .ok (.iload_n 2, 1) := by decide +kernel
theorem dX11_periodOfSum_16 : decode cX11_periodOfSum 16 = .ok (.invokevirtual 240, 3) := by decide +kernel
theorem dX11_periodOfSum_19 : decode cX11_periodOfSum 19 = .ok (.goto 8, 3) := by decide +kernel
theorem dX11_periodOfSum_22 : decode cX11_periodOfSum 22 = .ok (.aload_n 0, 1) := by decide +kernel
theorem dX11_periodOfSum_23 : decode cX11_periodOfSum 23 = .ok (.iconst 1, 1) := by decide +kernel
theorem dX11_periodOfSum_24 : decode cX11_periodOfSum 24 = .ok (.invokevirtual 127, 3) := by decide +kernel
theorem dX11_periodOfSum_27 : decode cX11_periodOfSum 27 = .ok (.ireturn, 1) := by decide +kernel
theorem dX11_value_0 : decode cX11_value 0 = .ok (.aload_n 0, 1) := by decide +kernel
theorem dX11_value_1 : decode cX11_value 1 = .ok (.iload_n 1, 1) := by decide +kernel
theorem dX11_value_2 : decode cX11_value 2 = .ok (.invokevirtual 46, 3) := by decide +kernel
theorem dX11_value_5 : decode cX11_value 5 = .ok (.i2d, 1) := by decide +kernel
theorem dX11_value_6 : decode cX11_value 6 = .ok (.aload_n 0, 1) := by decide +kernel
theorem dX11_value_7 : decode cX11_value 7 = .ok (.iload_n 1, 1) := by decide +kernel
theorem dX11_value_8 : decode cX11_value 8 = .ok (.invokevirtual 50, 3) := by decide +kernel
theorem dX11_value_11 : decode cX11_value 11 = .ok (.i2d, 1) := by decide +kernel
theorem dX11_value_12 : decode cX11_value 12 = .ok (.ddiv, 1) := by decide +kernel
theorem dX11_value_13 : decode cX11_value 13 = .ok (.dreturn, 1) := by decide +kernel
theorem dX11_share_0 : decode cX11_share 0 = .ok (.dconst 0, 1) := by decide +kernel
theorem dX11_share_1 : decode cX11_share 1 = .ok (.dstore_n 2, 1) := by decide +kernel
theorem dX11_share_2 : decode cX11_share 2 = .ok (.iconst 0, 1) := by decide +kernel
theorem dX11_share_3 : decode cX11_share 3 = .ok (.istore 4, 2) := by decide +kernel
theorem dX11_share_5 : decode cX11_share 5 = .ok (.iload 4, 2) := by decide +kernel
theorem dX11_share_7 : decode cX11_share 7 = .ok (.bipush 6, 2) := by decide +kernel
theorem dX11_share_9 : decode cX11_share 9 = .ok (.if_icmp .ge 18, 3) := by decide +kernel
theorem dX11_share_12 : decode cX11_share 12 = .ok (.dload_n 2, 1) := by decide +kernel
theorem dX11_share_13 : decode cX11_share 13 = .ok (.aload_n 0, 1) := by decide +kernel
theorem dX11_share_14 : decode cX11_share 14 = .ok (.iload 4, 2) := by decide +kernel
theorem dX11_share_16 : decode cX11_share 16 = .ok (.invokevirtual 243, 3) := by decide +kernel
theorem dX11_share_19 : decode cX11_share 19 = .ok (.dadd, 1) := by decide +kernel
theorem dX11_share_20 : decode cX11_share 20 = .ok (.dstore_n 2, 1) := by decide +kernel
theorem dX11_share_21 : decode cX11_share 21 = .ok (.iinc 4 1, 3) := by decide +kernel
theorem dX11_share_24 : decode cX11_share 24 = .ok (.goto (-19), 3) := by decide +kernel
theorem dX11_share_27 : decode cX11_share 27 = .ok (.dload_n 2, 1) := by decide +kernel
theorem dX11_share_28 : decode cX11_share 28 = .ok (.dconst 0, 1) := by decide +kernel
theorem dX11_share_29 : decode cX11_share 29 = .ok (.dcmp .l, 1) := by decide +kernel
theorem dX11_share_30 : decode cX11_share 30 = .ok (.ifCond .ne 7, 3) := by decide +kernel
theorem dX11_share_33 : decode cX11_share 33 = .ok (.dconst 0, 1) := by decide +kernel
theorem dX11_share_34 : decode cX11_share 34 = .ok (.goto 10, 3) := by decide +kernel
theorem dX11_share_37 : decode cX11_share 37 = .ok (.aload_n 0, 1) := by decide +kernel
theorem dX11_share_38 : decode cX11_share 38 = .ok (.iload_n 1, 1) := by decide +kernel
theorem dX11_share_39 : decode cX11_share 39 = .ok (.invokevirtual 243, 3) := by decide +kernel
theorem dX11_share_42 : decode cX11_share 42 = .ok (.dload_n 2, 1) := by decide +kernel
theorem dX11_share_43 : decode cX11_share 43 = .ok (.ddiv, 1) := by decide +kernel
theorem dX11_share_44 : decode cX11_share 44 = .ok (.dreturn, 1) := by decide +kernel
theorem dX11_shareOf_0 : decode cX11_shareOf 0 = .ok (.aload_n 0, 1) := by decide +kernel
theorem dX11_shareOf_1 : decode cX11_shareOf 1 = .ok (.iconst 0, 1) := by decide +kernel
theorem dX11_shareOf_2 : decode cX11_shareOf 2 = .ok (.putfield 34, 3) := by decide +kernel
theorem dX11_shareOf_5 : decode cX11_shareOf 5 = .ok (.iload_n 1, 1) := by decide +kernel
theorem dX11_shareOf_6 : decode cX11_shareOf 6 = .ok (.invokestatic 42, 3) := by decide +kernel
theorem dX11_shareOf_9 : decode cX11_shareOf 9 = .ok (.ifCond .eq 11, 3) := by decide +kernel
theorem dX11_shareOf_12 : decode cX11_shareOf 12 = .ok (.aload_n 0, 1) := by decide +kernel
theorem dX11_shareOf_13 : decode cX11_shareOf 13 = .ok (.iload_n 1, 1) := by decide +kernel
theorem dX11_shareOf_14 : decode cX11_shareOf 14 = .ok (.invokevirtual 247, 3) := by decide +kernel
theorem dX11_shareOf_17 : decode cX11_shareOf 17 = .ok (.goto 9, 3) := by decide +kernel
theorem dX11_shareOf_20 : decode cX11_shareOf 20 = .ok (.aload_n 0, 1) := by decide +kernel
theorem dX11_shareOf_21 : decode cX11_shareOf 21 = .ok (.iconst 1, 1) := by decide +kernel
theorem dX11_shareOf_22 : decode cX11_shareOf 22 = .ok (.invokevirtual 127, 3) := by decide +kernel
theorem dX11_shareOf_25 : decode cX11_shareOf 25 = .ok (.i2d, 1) := by decide +kernel
theorem dX11_shareOf_26 : decode cX11_shareOf 26 = .ok (.dreturn, 1) := by decide +kernel
theorem dX11_digestAccount_0 : decode cX11_digestAccount 0 = .ok (.aload_n 0, 1) := by decide +kernel
theorem dX11_digestAccount_1 : decode cX11_digestAccount 1 = .ok (.iload_n 3, 1) := by decide +kernel
theorem dX11_digestAccount_2 : decode cX11_digestAccount 2 = .ok (.invokevirtual 88, 3) := by decide +kernel
theorem dX11_digestAccount_5 : decode cX11_digestAccount 5 = .ok (.ldc2_w 250, 3) := by decide +kernel
theorem dX11_digestAccount_8 : decode cX11_digestAccount 8 = .ok (.ldc2_w 250, 3) := by decide +kernel
theorem dX11_digestAccount_11 : decode cX11_digestAccount 11 = .ok (.ldc2_w 250, 3) := by decide +kernel
theorem dX11_digestAccount_14 : decode cX11_digestAccount 14 = .ok (.lload_n 1, 1) := by decide +kernel
theorem dX11_digestAccount_15 : decode cX11_digestAccount 15 = .ok (.lmul, 1) := by decide +kernel
theorem dX11_digestAccount_16 : decode cX11_digestAccount 16 = .ok (.aload_n 0, 1) := by decide +kernel
theorem dX11_digestAccount_17 : decode cX11_digestAccount 17 = .ok (.iload_n 3, 1) := by decide +kernel
theorem dX11_digestAccount_18 : decode cX11_digestAccount 18 = .ok (.invokevirtual 46, 3) := by decide +kernel
theorem dX11_digestAccount_21 : decode cX11_digestAccount 21 = .ok (.i2l, 1) := by decide +kernel
theorem dX11_digestAccount_22 : decode cX11_digestAccount 22 = .ok (.ladd, 1) := by decide +kernel
theorem dX11_digestAccount_23 : decode cX11_digestAccount 23 = .ok (.lmul, 1) := by decide +kernel
theorem dX11_digestAccount_24 : decode cX11_digestAccount 24 = .ok (.aload_n 0, 1) := by decide +kernel
theorem dX11_digestAccount_25 : decode cX11_digestAccount 25 = .ok (.iload_n 3, 1) := by decide +kernel
theorem dX11_digestAccount_26 : decode cX11_digestAccount 26 = .ok (.invokevirtual 50, 3) := by decide +kernel
theorem dX11_digestAccount_29 : decode cX11_digestAccount 29 = .ok (.i2l, 1) := by decide +kernel
theorem dX11_digestAccount_30 : decode cX11_digestAccount 30 = .ok (.ladd, 1) := by decide +kernel
theorem dX11_digestAccount_31 : decode cX11_digestAccount 31 = .ok (.lmul, 1) := by decide +kernel
theorem dX11_digestAccount_32 : decode cX11_digestAccount 32 = .ok (.aload_n 0, 1) := by decide +kernel
theorem dX11_digestAccount_33 : decode cX11_digestAccount 33 = .ok (.iload_n 3, 1) := by decide +kernel
theorem dX11_digestAccount_34 : decode cX11_digestAccount 34 = .ok (.invokevirtual 82, 3) := by decide +kernel
theorem dX11_digestAccount_37 : decode cX11_digestAccount 37 = .ok (.i2l, 1) := by decide +kernel
theorem dX11_digestAccount_38 : decode cX11_digestAccount 38 = .ok (.ladd, 1) := by decide +kernel
theorem dX11_digestAccount_39 : decode cX11_digestAccount 39 = .ok (.lstore 4, 2) := by decide +kernel
theorem dX11_digestAccount_41 : decode cX11_digestAccount 41 = .ok (.ldc2_w 250, 3) := by decide +kernel
theorem dX11_digestAccount_44 : decode cX11_digestAccount 44 = .ok (.lload 4, 2) := by decide +kernel
theorem dX11_digestAccount_46 : decode cX11_digestAccount 46 = .ok (.lmul, 1) := by decide +kernel
theorem dX11_digestAccount_47 : decode cX11_digestAccount 47 = .ok (.aload_n 0, 1) := by decide +kernel
theorem dX11_digestAccount_48 : decode cX11_digestAccount 48 = .ok (.getfield 85, 3) := by decide +kernel
theorem dX11_digestAccount_51 : decode cX11_digestAccount 51 = .ok (.i2l, 1) := by decide +kernel
theorem dX11_digestAccount_52 : decode cX11_digestAccount 52 = .ok (.ladd, 1) := by decide +kernel
theorem dX11_digestAccount_53 : decode cX11_digestAccount 53 = .ok (.lstore 4, 2) := by decide +kernel
theorem dX11_digestAccount_55 : decode cX11_digestAccount 55 = .ok (.iconst 0, 1) := by decide +kernel
theorem dX11_digestAccount_56 : decode cX11_digestAccount 56 = .ok (.istore 6, 2) := by decide +kernel
theorem dX11_digestAccount_58 : decode cX11_digestAccount 58 = .ok (.iload 6, 2) := by decide +kernel
theorem dX11_digestAccount_60 : decode cX11_digestAccount 60 = .ok (.aload_n 0, 1) := by decide +kernel
theorem dX11_digestAccount_61 : decode cX11_digestAccount 61 = .ok (.getfield 85, 3) := by decide +kernel
theorem dX11_digestAccount_64 : decode cX11_digestAccount 64 = .ok (.if_icmp .ge 39, 3) := by decide +kernel
theorem dX11_digestAccount_67 : decode cX11_digestAccount 67 = .ok (.ldc2_w 250, 3) := by decide +kernel
theorem dX11_digestAccount_70 : decode cX11_digestAccount 70 = .ok (.ldc2_w 250, 3) := by decide +kernel
theorem dX11_digestAccount_73 : decode cX11_digestAccount 73 = .ok (.lload 4, 2) := by decide +kernel
theorem dX11_digestAccount_75 : decode cX11_digestAccount 75 = .ok (.lmul, 1) := by decide +kernel
theorem dX11_digestAccount_76 : decode cX11_digestAccount 76 = .ok (.aload_n 0, 1) := by decide +kernel
theorem dX11_digestAccount_77 : decode cX11_digestAccount 77 = .ok (.getfield 25, 3) := by decide +kernel
theorem dX11_digestAccount_80 : decode cX11_digestAccount 80 = .ok (.iload 6, 2) := by decide +kernel
theorem dX11_digestAccount_82 : decode cX11_digestAccount 82 = .ok (.iaload, 1) := by decide +kernel
theorem dX11_digestAccount_83 : decode cX11_digestAccount 83 = .ok (.i2l, 1) := by decide +kernel
theorem dX11_digestAccount_84 : decode cX11_digestAccount 84 = .ok (.ladd, 1) := by decide +kernel
theorem dX11_digestAccount_85 : decode cX11_digestAccount 85 = .ok (.lmul, 1) := by decide +kernel
theorem dX11_digestAccount_86 : decode cX11_digestAccount 86 = .ok (.aload_n 0, 1) := by decide +kernel
theorem dX11_digestAccount_87 : decode cX11_digestAccount 87 = .ok (.getfield 25, 3) := by decide +kernel
theorem dX11_digestAccount_90 : decode cX11_digestAccount 90 = .ok (.iload 6, 2) := by decide +kernel
theorem dX11_digestAccount_92 : decode cX11_digestAccount 92 = .ok (.iaload, 1) := by decide +kernel
theorem dX11_digestAccount_93 : decode cX11_digestAccount 93 = .ok (.i2l, 1) := by decide +kernel
theorem dX11_digestAccount_94 : decode cX11_digestAccount 94 = .ok (.ladd, 1) := by decide +kernel
theorem dX11_digestAccount_95 : decode cX11_digestAccount 95 = .ok (.lstore 4, 2) := by decide +kernel
theorem dX11_digestAccount_97 : decode cX11_digestAccount 97 = .ok (.iinc 6 1, 3) := by decide +kernel
theorem dX11_digestAccount_100 : decode cX11_digestAccount 100 = .ok (.goto (-42), 3) := by decide +kernel
theorem dX11_digestAccount_103 : decode cX11_digestAccount 103 = .ok (.aload_n 0, 1) := by decide +kernel
theorem dX11_digestAccount_104 : decode cX11_digestAccount 104 = .ok (.iload_n 3, 1) := by decide +kernel
theorem dX11_digestAccount_105 : decode cX11_digestAccount 105 = .ok (.invokevirtual 82, 3) := by decide +kernel
theorem dX11_digestAccount_108 : decode cX11_digestAccount 108 = .ok (.aload_n 0, 1) := by decide +kernel
theorem dX11_digestAccount_109 : decode cX11_digestAccount 109 = .ok (.getfield 7, 3) := by decide +kernel
theorem dX11_digestAccount_112 : decode cX11_digestAccount 112 = .ok (.iconst 0, 1) := by decide +kernel
theorem dX11_digestAccount_113 : decode cX11_digestAccount 113 = .ok (.iaload, 1) := by decide +kernel
theorem dX11_digestAccount_114 : decode cX11_digestAccount 114 = .ok (.iconst 1, 1) := by decide +kernel
theorem dX11_digestAccount_115 : decode cX11_digestAccount 115 = .ok (.isub, 1) := by decide +kernel
theorem dX11_digestAccount_116 : decode cX11_digestAccount 116 = .ok (.irem, 1) := by decide +kernel
theorem dX11_digestAccount_117 : decode cX11_digestAccount 117 = .ok (.istore 6, 2) := by decide +kernel
theorem dX11_digestAccount_119 : decode cX11_digestAccount 119 = .ok (.aload_n 0, 1) := by decide +kernel
theorem dX11_digestAccount_120 : decode cX11_digestAccount 120 = .ok (.iload_n 3, 1) := by decide +kernel
theorem dX11_digestAccount_121 : decode cX11_digestAccount 121 = .ok (.invokevirtual 50, 3) := by decide +kernel
theorem dX11_digestAccount_124 : decode cX11_digestAccount 124 = .ok (.aload_n 0, 1) := by decide +kernel
theorem dX11_digestAccount_125 : decode cX11_digestAccount 125 = .ok (.getfield 7, 3) := by decide +kernel
theorem dX11_digestAccount_128 : decode cX11_digestAccount 128 = .ok (.iconst 0, 1) := by decide +kernel
theorem dX11_digestAccount_129 : decode cX11_digestAccount 129 = .ok (.iaload, 1) := by decide +kernel
theorem dX11_digestAccount_130 : decode cX11_digestAccount 130 = .ok (.invokestatic 95, 3) := by decide +kernel
theorem dX11_digestAccount_133 : decode cX11_digestAccount 133 = .ok (.istore 7, 2) := by decide +kernel
theorem dX11_digestAccount_135 : decode cX11_digestAccount 135 = .ok (.ldc2_w 250, 3) := by decide +kernel
theorem dX11_digestAccount_138 : decode cX11_digestAccount 138 = .ok (.ldc2_w 250, 3) := by decide +kernel
theorem dX11_digestAccount_141 : decode cX11_digestAccount 141 = .ok (.ldc2_w 250, 3) := by decide +kernel
theorem dX11_digestAccount_144 : decode cX11_digestAccount 144 = .ok (.lload 4, 2) := by decide +kernel
theorem dX11_digestAccount_146 : decode cX11_digestAccount 146 = .ok (.lmul, 1) := by decide +kernel
theorem dX11_digestAccount_147 : decode cX11_digestAccount 147 = .ok (.aload_n 0, 1) := by decide +kernel
theorem dX11_digestAccount_148 : decode cX11_digestAccount 148 = .ok (.iload_n 3, 1) := by decide +kernel
theorem dX11_digestAccount_149 : decode cX11_digestAccount 149 = .ok (.invokevirtual 212, 3) := by decide +kernel
theorem dX11_digestAccount_152 : decode cX11_digestAccount 152 = .ok (.i2l, 1) := by decide +kernel
theorem dX11_digestAccount_153 : decode cX11_digestAccount 153 = .ok (.ladd, 1) := by decide +kernel
theorem dX11_digestAccount_154 : decode cX11_digestAccount 154 = .ok (.lmul, 1) := by decide +kernel
theorem dX11_digestAccount_155 : decode cX11_digestAccount 155 = .ok (.iload 6, 2) := by decide +kernel
theorem dX11_digestAccount_157 : decode cX11_digestAccount 157 = .ok (.i2l, 1) := by decide +kernel
theorem dX11_digestAccount_158 : decode cX11_digestAccount 158 = .ok (.ladd, 1) := by decide +kernel
theorem dX11_digestAccount_159 : decode cX11_digestAccount 159 = .ok (.lmul, 1) := by decide +kernel
theorem dX11_digestAccount_160 : decode cX11_digestAccount 160 = .ok (.iload 6, 2) := by decide +kernel
theorem dX11_digestAccount_162 : decode cX11_digestAccount 162 = .ok (.i2l, 1) := by decide +kernel
theorem dX11_digestAccount_163 : decode cX11_digestAccount 163 = .ok (.ladd, 1) := by decide +kernel
theorem dX11_digestAccount_164 : decode cX11_digestAccount 164 = .ok (.lstore 4, 2) := by decide +kernel
theorem dX11_digestAccount_166 : decode cX11_digestAccount 166 = .ok (.ldc2_w 250, 3) := by decide +kernel
theorem dX11_digestAccount_169 : decode cX11_digestAccount 169 = .ok (.ldc2_w 250, 3) := by decide +kernel
theorem dX11_digestAccount_172 : decode cX11_digestAccount 172 = .ok (.ldc2_w 250, 3) := by decide +kernel
theorem dX11_digestAccount_175 : decode cX11_digestAccount 175 = .ok (.lload 4, 2) := by decide +kernel
theorem dX11_digestAccount_177 : decode cX11_digestAccount 177 = .ok (.lmul, 1) := by decide +kernel
theorem dX11_digestAccount_178 : decode cX11_digestAccount 178 = .ok (.aload_n 0, 1) := by decide +kernel
theorem dX11_digestAccount_179 : decode cX11_digestAccount 179 = .ok (.iload_n 3, 1) := by decide +kernel
theorem dX11_digestAccount_180 : decode cX11_digestAccount 180 = .ok (.invokevirtual 50, 3) := by decide +kernel
theorem dX11_digestAccount_183 : decode cX11_digestAccount 183 = .ok (.aload_n 0, 1) := by decide +kernel
theorem dX11_digestAccount_184 : decode cX11_digestAccount 184 = .ok (.getfield 7, 3) := by decide +kernel
theorem dX11_digestAccount_187 : decode cX11_digestAccount 187 = .ok (.iconst 0, 1) := by decide +kernel
theorem dX11_digestAccount_188 : decode cX11_digestAccount 188 = .ok (.iaload, 1) := by decide +kernel
theorem dX11_digestAccount_189 : decode cX11_digestAccount 189 = .ok (.invokestatic 92, 3) := by decide +kernel
theorem dX11_digestAccount_192 : decode cX11_digestAccount 192 = .ok (.i2l, 1) := by decide +kernel
theorem dX11_digestAccount_193 : decode cX11_digestAccount 193 = .ok (.ladd, 1) := by decide +kernel
theorem dX11_digestAccount_194 : decode cX11_digestAccount 194 = .ok (.lmul, 1) := by decide +kernel
theorem dX11_digestAccount_195 : decode cX11_digestAccount 195 = .ok (.iload 7, 2) := by decide +kernel
theorem dX11_digestAccount_197 : decode cX11_digestAccount 197 = .ok (.i2l, 1) := by decide +kernel
theorem dX11_digestAccount_198 : decode cX11_digestAccount 198 = .ok (.ladd, 1) := by decide +kernel
theorem dX11_digestAccount_199 : decode cX11_digestAccount 199 = .ok (.lmul, 1) := by decide +kernel
theorem dX11_digestAccount_200 : decode cX11_digestAccount 200 = .ok (.iload 7, 2) := by decide +kernel
theorem dX11_digestAccount_202 : decode cX11_digestAccount 202 = .ok (.i2l, 1) := by decide +kernel
theorem dX11_digestAccount_203 : decode cX11_digestAccount 203 = .ok (.ladd, 1) := by decide +kernel
theorem dX11_digestAccount_204 : decode cX11_digestAccount 204 = .ok (.lstore 4, 2) := by decide +kernel
theorem dX11_digestAccount_206 : decode cX11_digestAccount 206 = .ok (.iconst 0, 1) := by decide +kernel
theorem dX11_digestAccount_207 : decode cX11_digestAccount 207 = .ok (.istore 8, 2) := by decide +kernel
theorem dX11_digestAccount_209 : decode cX11_digestAccount 209 = .ok (.iload 8, 2) := by decide +kernel
theorem dX11_digestAccount_211 : decode cX11_digestAccount 211 = .ok (.bipush 10, 2) := by decide +kernel
theorem dX11_digestAccount_213 : decode cX11_digestAccount 213 = .ok (.if_icmp .ge 26, 3) := by decide +kernel
theorem dX11_digestAccount_216 : decode cX11_digestAccount 216 = .ok (.ldc2_w 250, 3) := by decide +kernel
theorem dX11_digestAccount_219 : decode cX11_digestAccount 219 = .ok (.lload 4, 2) := by decide +kernel
theorem dX11_digestAccount_221 : decode cX11_digestAccount 221 = .ok (.lmul, 1) := by decide +kernel
theorem dX11_digestAccount_222 : decode cX11_digestAccount 222 = .ok (.aload_n 0, 1) := by decide +kernel
theorem dX11_digestAccount_223 : decode cX11_digestAccount 223 = .ok (.iload_n 3, 1) := by decide +kernel
theorem dX11_digestAccount_224 : decode cX11_digestAccount 224 = .ok (.iload 8, 2) := by decide +kernel
theorem dX11_digestAccount_226 : decode cX11_digestAccount 226 = .ok (.invokevirtual 101, 3) := by decide +kernel
theorem dX11_digestAccount_229 : decode cX11_digestAccount 229 = .ok (.i2l, 1) := by decide +kernel
theorem dX11_digestAccount_230 : decode cX11_digestAccount 230 = .ok (.ladd, 1) := by decide +kernel
theorem dX11_digestAccount_231 : decode cX11_digestAccount 231 = .ok (.lstore 4, 2) := by decide +kernel
theorem dX11_digestAccount_233 : decode cX11_digestAccount 233 = .ok (.iinc 8 1, 3) := by decide +kernel
theorem dX11_digestAccount_236 : decode cX11_digestAccount 236 = .ok (.goto (-27), 3) := by decide +kernel
theorem dX11_digestAccount_239 : decode cX11_digestAccount 239 = .ok (.ldc2_w 250, 3) := by decide +kernel
theorem dX11_digestAccount_242 : decode cX11_digestAccount 242 = .ok (.ldc2_w 250, 3) := by decide +kernel
theorem dX11_digestAccount_245 : decode cX11_digestAccount 245 = .ok (.lload 4, 2) := by decide +kernel
theorem dX11_digestAccount_247 : decode cX11_digestAccount 247 = .ok (.lmul, 1) := by decide +kernel
theorem dX11_digestAccount_248 : decode cX11_digestAccount 248 = .ok (.aload_n 0, 1) := by decide +kernel
theorem dX11_digestAccount_249 : decode cX11_digestAccount 249 = .ok (.iload_n 3, 1) := by decide +kernel
theorem dX11_digestAccount_250 : decode cX11_digestAccount 250 = .ok (.invokevirtual 221, 3) := by decide +kernel
theorem dX11_digestAccount_253 : decode cX11_digestAccount 253 = .ok (.i2l, 1) := by decide +kernel
theorem dX11_digestAccount_254 : decode cX11_digestAccount 254 = .ok (.ladd, 1) := by decide +kernel
theorem dX11_digestAccount_255 : decode cX11_digestAccount 255 = .ok (.lmul, 1) := by decide +kernel
theorem dX11_digestAccount_256 : decode cX11_digestAccount 256 = .ok (.aload_n 0, 1) := by decide +kernel
theorem dX11_digestAccount_257 : decode cX11_digestAccount 257 = .ok (.iload_n 3, 1) := by decide +kernel
theorem dX11_digestAccount_258 : decode cX11_digestAccount 258 = .ok (.bipush 16, 2) := by decide +kernel
theorem dX11_digestAccount_260 : decode cX11_digestAccount 260 = .ok (.invokevirtual 237, 3) := by decide +kernel
theorem dX11_digestAccount_263 : decode cX11_digestAccount 263 = .ok (.ladd, 1) := by decide +kernel
theorem dX11_digestAccount_264 : decode cX11_digestAccount 264 = .ok (.lstore 4, 2) := by decide +kernel
theorem dX11_digestAccount_266 : decode cX11_digestAccount 266 = .ok (.ldc2_w 250, 3) := by decide +kernel
theorem dX11_digestAccount_269 : decode cX11_digestAccount 269 = .ok (.ldc2_w 250, 3) := by decide +kernel
theorem dX11_digestAccount_272 : decode cX11_digestAccount 272 = .ok (.lload 4, 2) := by decide +kernel
theorem dX11_digestAccount_274 : decode cX11_digestAccount 274 = .ok (.lmul, 1) := by decide +kernel
theorem dX11_digestAccount_275 : decode cX11_digestAccount 275 = .ok (.aload_n 0, 1) := by decide +kernel
theorem dX11_digestAccount_276 : decode cX11_digestAccount 276 = .ok (.iload_n 3, 1) := by decide +kernel
theorem dX11_digestAccount_277 : decode cX11_digestAccount 277 = .ok (.invokevirtual 224, 3) := by decide +kernel
theorem dX11_digestAccount_280 : decode cX11_digestAccount 280 = .ok (.i2l, 1) := by decide +kernel
theorem dX11_digestAccount_281 : decode cX11_digestAccount 281 = .ok (.ladd, 1) := by decide +kernel
theorem dX11_digestAccount_282 : decode cX11_digestAccount 282 = .ok (.lmul, 1) := by decide +kernel
theorem dX11_digestAccount_283 : decode cX11_digestAccount 283 = .ok (.aload_n 0, 1) := by decide +kernel
theorem dX11_digestAccount_284 : decode cX11_digestAccount 284 = .ok (.iload_n 3, 1) := by decide +kernel
theorem dX11_digestAccount_285 : decode cX11_digestAccount 285 = .ok (.aload_n 0, 1) := by decide +kernel
theorem dX11_digestAccount_286 : decode cX11_digestAccount 286 = .ok (.iload_n 3, 1) := by decide +kernel
theorem dX11_digestAccount_287 : decode cX11_digestAccount 287 = .ok (.invokevirtual 224, 3) := by decide +kernel
theorem dX11_digestAccount_290 : decode cX11_digestAccount 290 = .ok (.iconst 1, 1) := by decide +kernel
theorem dX11_digestAccount_291 : decode cX11_digestAccount 291 = .ok (.isub, 1) := by decide +kernel
theorem dX11_digestAccount_292 : decode cX11_digestAccount 292 = .ok (.invokevirtual 227, 3) := by decide +kernel
theorem dX11_digestAccount_295 : decode cX11_digestAccount 295 = .ok (.i2l, 1) := by decide +kernel
theorem dX11_digestAccount_296 : decode cX11_digestAccount 296 = .ok (.ladd, 1) := by decide +kernel
theorem dX11_digestAccount_297 : decode cX11_digestAccount 297 = .ok (.lreturn, 1) := by decide +kernel
theorem dX11_digestPair_0 : decode cX11_digestPair 0 = .ok (.aload_n 0, 1) := by decide +kernel
theorem dX11_digestPair_1 : decode cX11_digestPair 1 = .ok (.iload_n 3, 1) := by decide +kernel
theorem dX11_digestPair_2 : decode cX11_digestPair 2 = .ok (.iload 4, 2) := by decide +kernel
theorem dX11_digestPair_4 : decode cX11_digestPair 4 = .ok (.invokevirtual 230, 3) := by decide +kernel
theorem dX11_digestPair_7 : decode cX11_digestPair 7 = .ok (.ldc2_w 250, 3) := by decide +kernel
theorem dX11_digestPair_10 : decode cX11_digestPair 10 = .ok (.ldc2_w 250, 3) := by decide +kernel
theorem dX11_digestPair_13 : decode cX11_digestPair 13 = .ok (.lload_n 1, 1) := by decide +kernel
theorem dX11_digestPair_14 : decode cX11_digestPair 14 = .ok (.lmul, 1) := by decide +kernel
theorem dX11_digestPair_15 : decode cX11_digestPair 15 = .ok (.aload_n 0, 1) := by decide +kernel
theorem dX11_digestPair_16 : decode cX11_digestPair 16 = .ok (.getfield 110, 3) := by decide +kernel
theorem dX11_digestPair_19 : decode cX11_digestPair 19 = .ok (.i2l, 1) := by decide +kernel
theorem dX11_digestPair_20 : decode cX11_digestPair 20 = .ok (.ladd, 1) := by decide +kernel
theorem dX11_digestPair_21 : decode cX11_digestPair 21 = .ok (.lmul, 1) := by decide +kernel
theorem dX11_digestPair_22 : decode cX11_digestPair 22 = .ok (.aload_n 0, 1) := by decide +kernel
theorem dX11_digestPair_23 : decode cX11_digestPair 23 = .ok (.getfield 113, 3) := by decide +kernel
theorem dX11_digestPair_26 : decode cX11_digestPair 26 = .ok (.i2l, 1) := by decide +kernel
theorem dX11_digestPair_27 : decode cX11_digestPair 27 = .ok (.ladd, 1) := by decide +kernel
theorem dX11_digestPair_28 : decode cX11_digestPair 28 = .ok (.lstore 5, 2) := by decide +kernel
theorem dX11_digestPair_30 : decode cX11_digestPair 30 = .ok (.iconst 0, 1) := by decide +kernel
theorem dX11_digestPair_31 : decode cX11_digestPair 31 = .ok (.istore 7, 2) := by decide +kernel
theorem dX11_digestPair_33 : decode cX11_digestPair 33 = .ok (.iload 7, 2) := by decide +kernel
theorem dX11_digestPair_35 : decode cX11_digestPair 35 = .ok (.aload_n 0, 1) := by decide +kernel
theorem dX11_digestPair_36 : decode cX11_digestPair 36 = .ok (.getfield 107, 3) := by decide +kernel
theorem dX11_digestPair_39 : decode cX11_digestPair 39 = .ok (.if_icmp .ge 26, 3) := by decide +kernel
theorem dX11_digestPair_42 : decode cX11_digestPair 42 = .ok (.ldc2_w 250, 3) := by decide +kernel
theorem dX11_digestPair_45 : decode cX11_digestPair 45 = .ok (.lload 5, 2) := by decide +kernel
theorem dX11_digestPair_47 : decode cX11_digestPair 47 = .ok (.lmul, 1) := by decide +kernel
theorem dX11_digestPair_48 : decode cX11_digestPair 48 = .ok (.aload_n 0, 1) := by decide +kernel
theorem dX11_digestPair_49 : decode cX11_digestPair 49 = .ok (.getfield 31, 3) := by decide +kernel
theorem dX11_digestPair_52 : decode cX11_digestPair 52 = .ok (.iload 7, 2) := by decide +kernel
theorem dX11_digestPair_54 : decode cX11_digestPair 54 = .ok (.iaload, 1) := by decide +kernel
theorem dX11_digestPair_55 : decode cX11_digestPair 55 = .ok (.i2l, 1) := by decide +kernel
theorem dX11_digestPair_56 : decode cX11_digestPair 56 = .ok (.ladd, 1) := by decide +kernel
theorem dX11_digestPair_57 : decode cX11_digestPair 57 = .ok (.lstore 5, 2) := by decide +kernel
theorem dX11_digestPair_59 : decode cX11_digestPair 59 = .ok (.iinc 7 1, 3) := by decide +kernel
theorem dX11_digestPair_62 : decode cX11_digestPair 62 = .ok (.goto (-29), 3) := by decide +kernel
theorem dX11_digestPair_65 : decode cX11_digestPair 65 = .ok (.ldc2_w 250, 3) := by decide +kernel
theorem dX11_digestPair_68 : decode cX11_digestPair 68 = .ok (.ldc2_w 250, 3) := by decide +kernel
theorem dX11_digestPair_71 : decode cX11_digestPair 71 = .ok (.lload 5, 2) := by decide +kernel
theorem dX11_digestPair_73 : decode cX11_digestPair 73 = .ok (.lmul, 1) := by decide +kernel
theorem dX11_digestPair_74 : decode cX11_digestPair 74 = .ok (.aload_n 0, 1) := by decide +kernel
theorem dX11_digestPair_75 : decode cX11_digestPair 75 = .ok (.iload_n 3, 1) := by decide +kernel
theorem dX11_digestPair_76 : decode cX11_digestPair 76 = .ok (.invokevirtual 82, 3) := by decide +kernel
theorem dX11_digestPair_79 : decode cX11_digestPair 79 = .ok (.i2l, 1) := by decide +kernel
theorem dX11_digestPair_80 : decode cX11_digestPair 80 = .ok (.aload_n 0, 1) := by decide +kernel
theorem dX11_digestPair_81 : decode cX11_digestPair 81 = .ok (.iload 4, 2) := by decide +kernel
theorem dX11_digestPair_83 : decode cX11_digestPair 83 = .ok (.invokevirtual 82, 3) := by decide +kernel
theorem dX11_digestPair_86 : decode cX11_digestPair 86 = .ok (.i2l, 1) := by decide +kernel
theorem dX11_digestPair_87 : decode cX11_digestPair 87 = .ok (.ladd, 1) := by decide +kernel
theorem dX11_digestPair_88 : decode cX11_digestPair 88 = .ok (.ladd, 1) := by decide +kernel
theorem dX11_digestPair_89 : decode cX11_digestPair 89 = .ok (.lmul, 1) := by decide +kernel
theorem dX11_digestPair_90 : decode cX11_digestPair 90 = .ok (.aload_n 0, 1) := by decide +kernel
theorem dX11_digestPair_91 : decode cX11_digestPair 91 = .ok (.iload_n 3, 1) := by decide +kernel
theorem dX11_digestPair_92 : decode cX11_digestPair 92 = .ok (.iload 4, 2) := by decide +kernel
theorem dX11_digestPair_94 : decode cX11_digestPair 94 = .ok (.iconst 1, 1) := by decide +kernel
theorem dX11_digestPair_95 : decode cX11_digestPair 95 = .ok (.invokevirtual 120, 3) := by decide +kernel
theorem dX11_digestPair_98 : decode cX11_digestPair 98 = .ok (.i2l, 1) := by decide +kernel
theorem dX11_digestPair_99 : decode cX11_digestPair 99 = .ok (.ladd, 1) := by decide +kernel
theorem dX11_digestPair_100 : decode cX11_digestPair 100 = .ok (.lstore 5, 2) := by decide +kernel
theorem dX11_digestPair_102 : decode cX11_digestPair 102 = .ok (.ldc2_w 250, 3) := by decide +kernel
theorem dX11_digestPair_105 : decode cX11_digestPair 105 = .ok (.ldc2_w 250, 3) := by decide +kernel
theorem dX11_digestPair_108 : decode cX11_digestPair 108 = .ok (.lload 5, 2) := by decide +kernel
theorem dX11_digestPair_110 : decode cX11_digestPair 110 = .ok (.lmul, 1) := by decide +kernel
theorem dX11_digestPair_111 : decode cX11_digestPair 111 = .ok (.aload_n 0, 1) := by decide +kernel
theorem dX11_digestPair_112 : decode cX11_digestPair 112 = .ok (.iload_n 3, 1) := by decide +kernel
theorem dX11_digestPair_113 : decode cX11_digestPair 113 = .ok (.iload 4, 2) := by decide +kernel
theorem dX11_digestPair_115 : decode cX11_digestPair 115 = .ok (.invokevirtual 240, 3) := by decide +kernel
theorem dX11_digestPair_118 : decode cX11_digestPair 118 = .ok (.i2l, 1) := by decide +kernel
theorem dX11_digestPair_119 : decode cX11_digestPair 119 = .ok (.ladd, 1) := by decide +kernel
theorem dX11_digestPair_120 : decode cX11_digestPair 120 = .ok (.lmul, 1) := by decide +kernel
theorem dX11_digestPair_121 : decode cX11_digestPair 121 = .ok (.aload_n 0, 1) := by decide +kernel
theorem dX11_digestPair_122 : decode cX11_digestPair 122 = .ok (.iload_n 3, 1) := by decide +kernel
theorem dX11_digestPair_123 : decode cX11_digestPair 123 = .ok (.iload 4, 2) := by decide +kernel
theorem dX11_digestPair_125 : decode cX11_digestPair 125 = .ok (.invokevirtual 78, 3) := by decide +kernel
theorem dX11_digestPair_128 : decode cX11_digestPair 128 = .ok (.i2l, 1) := by decide +kernel
theorem dX11_digestPair_129 : decode cX11_digestPair 129 = .ok (.ladd, 1) := by decide +kernel
theorem dX11_digestPair_130 : decode cX11_digestPair 130 = .ok (.lreturn, 1) := by decide +kernel
theorem dX11_digest_0 : decode cX11_digest 0 = .ok (.aload_n 0, 1) := by decide +kernel
theorem dX11_digest_1 : decode cX11_digest 1 = .ok (.iconst 0, 1) := by decide +kernel
theorem dX11_digest_2 : decode cX11_digest 2 = .ok (.putfield 34, 3) := by decide +kernel
theorem dX11_digest_5 : decode cX11_digest 5 = .ok (.ldc2_w 252, 3) := by decide +kernel
theorem dX11_digest_8 : decode cX11_digest 8 = .ok (.lstore_n 1, 1) := by decide +kernel
theorem dX11_digest_9 : decode cX11_digest 9 = .ok (.ldc2_w 250, 3) := by decide +kernel
theorem dX11_digest_12 : decode cX11_digest 12 = .ok (.ldc2_w 250, 3) := by decide +kernel
theorem dX11_digest_15 : decode cX11_digest 15 = .ok (.ldc2_w 250, 3) := by decide +kernel
theorem dX11_digest_18 : decode cX11_digest 18 = .ok (.lload_n 1, 1) := by decide +kernel
theorem dX11_digest_19 : decode cX11_digest 19 = .ok (.lmul, 1) := by decide +kernel
theorem dX11_digest_20 : decode cX11_digest 20 = .ok (.aload_n 0, 1) := by decide +kernel
theorem dX11_digest_21 : decode cX11_digest 21 = .ok (.getfield 7, 3) := by decide +kernel
theorem dX11_digest_24 : decode cX11_digest 24 = .ok (.iconst 0, 1) := by decide +kernel
theorem dX11_digest_25 : decode cX11_digest 25 = .ok (.iaload, 1) := by decide +kernel
theorem dX11_digest_26 : decode cX11_digest 26 = .ok (.i2l, 1) := by decide +kernel
theorem dX11_digest_27 : decode cX11_digest 27 = .ok (.ladd, 1) := by decide +kernel
theorem dX11_digest_28 : decode cX11_digest 28 = .ok (.lmul, 1) := by decide +kernel
theorem dX11_digest_29 : decode cX11_digest 29 = .ok (.aload_n 0, 1) := by decide +kernel
theorem dX11_digest_30 : decode cX11_digest 30 = .ok (.invokevirtual 203, 3) := by decide +kernel
theorem dX11_digest_33 : decode cX11_digest 33 = .ok (.i2l, 1) := by decide +kernel
theorem dX11_digest_34 : decode cX11_digest 34 = .ok (.ladd, 1) := by decide +kernel
theorem dX11_digest_35 : decode cX11_digest 35 = .ok (.lmul, 1) := by decide +kernel
theorem dX11_digest_36 : decode cX11_digest 36 = .ok (.aload_n 0, 1) := by decide +kernel
theorem dX11_digest_37 : decode cX11_digest 37 = .ok (.getfield 53, 3) := by decide +kernel
theorem dX11_digest_40 : decode cX11_digest 40 = .ok (.i2l, 1) := by decide +kernel
theorem dX11_digest_41 : decode cX11_digest 41 = .ok (.ladd, 1) := by decide +kernel
theorem dX11_digest_42 : decode cX11_digest 42 = .ok (.lstore_n 1, 1) := by decide +kernel
theorem dX11_digest_43 : decode cX11_digest 43 = .ok (.iconst 0, 1) := by decide +kernel
theorem dX11_digest_44 : decode cX11_digest 44 = .ok (.istore_n 3, 1) := by decide +kernel
theorem dX11_digest_45 : decode cX11_digest 45 = .ok (.iload_n 3, 1) := by decide +kernel
theorem dX11_digest_46 : decode cX11_digest 46 = .ok (.bipush 6, 2) := by decide +kernel
theorem dX11_digest_48 : decode cX11_digest 48 = .ok (.if_icmp .ge 16, 3) := by decide +kernel
theorem dX11_digest_51 : decode cX11_digest 51 = .ok (.aload_n 0, 1) := by decide +kernel
theorem dX11_digest_52 : decode cX11_digest 52 = .ok (.lload_n 1, 1) := by decide +kernel
theorem dX11_digest_53 : decode cX11_digest 53 = .ok (.iload_n 3, 1) := by decide +kernel
theorem dX11_digest_54 : decode cX11_digest 54 = .ok (.invokevirtual 254, 3) := by decide +kernel
theorem dX11_digest_57 : decode cX11_digest 57 = .ok (.lstore_n 1, 1) := by decide +kernel
theorem dX11_digest_58 : decode cX11_digest 58 = .ok (.iinc 3 1, 3) := by decide +kernel
theorem dX11_digest_61 : decode cX11_digest 61 = .ok (.goto (-16), 3) := by decide +kernel
theorem dX11_digest_64 : decode cX11_digest 64 = .ok (.iconst 0, 1) := by decide +kernel
theorem dX11_digest_65 : decode cX11_digest 65 = .ok (.istore_n 3, 1) := by decide +kernel
theorem dX11_digest_66 : decode cX11_digest 66 = .ok (.iload_n 3, 1) := by decide +kernel
theorem dX11_digest_67 : decode cX11_digest 67 = .ok (.bipush 6, 2) := by decide +kernel
theorem dX11_digest_69 : decode cX11_digest 69 = .ok (.if_icmp .ge 22, 3) := by decide +kernel
theorem dX11_digest_72 : decode cX11_digest 72 = .ok (.aload_n 0, 1) := by decide +kernel
theorem dX11_digest_73 : decode cX11_digest 73 = .ok (.lload_n 1, 1) := by decide +kernel
theorem dX11_digest_74 : decode cX11_digest 74 = .ok (.iload_n 3, 1) := by decide +kernel
theorem dX11_digest_75 : decode cX11_digest 75 = .ok (.iload_n 3, 1) := by decide +kernel
theorem dX11_digest_76 : decode cX11_digest 76 = .ok (.iconst 1, 1) := by decide +kernel
theorem dX11_digest_77 : decode cX11_digest 77 = .ok (.iadd, 1) := by decide +kernel
theorem dX11_digest_78 : decode cX11_digest 78 = .ok (.bipush 6, 2) := by decide +kernel
theorem dX11_digest_80 : decode cX11_digest 80 = .ok (.irem, 1) := by decide +kernel
theorem dX11_digest_81 : decode cX11_digest 81 = .ok (.invokevirtual 258, 3) := by decide +kernel
theorem dX11_digest_84 : decode cX11_digest 84 = .ok (.lstore_n 1, 1) := by decide +kernel
theorem dX11_digest_85 : decode cX11_digest 85 = .ok (.iinc 3 1, 3) := by decide +kernel
theorem dX11_digest_88 : decode cX11_digest 88 = .ok (.goto (-22), 3) := by decide +kernel
theorem dX11_digest_91 : decode cX11_digest 91 = .ok (.iconst 0, 1) := by decide +kernel
theorem dX11_digest_92 : decode cX11_digest 92 = .ok (.istore_n 3, 1) := by decide +kernel
theorem dX11_digest_93 : decode cX11_digest 93 = .ok (.iload_n 3, 1) := by decide +kernel
theorem dX11_digest_94 : decode cX11_digest 94 = .ok (.bipush 6, 2) := by decide +kernel
theorem dX11_digest_96 : decode cX11_digest 96 = .ok (.if_icmp .ge 24, 3) := by decide +kernel
theorem dX11_digest_99 : decode cX11_digest 99 = .ok (.ldc2_w 250, 3) := by decide +kernel
theorem dX11_digest_102 : decode cX11_digest 102 = .ok (.lload_n 1, 1) := by decide +kernel
theorem dX11_digest_103 : decode cX11_digest 103 = .ok (.lmul, 1) := by decide +kernel
theorem dX11_digest_104 : decode cX11_digest 104 = .ok (.aload_n 0, 1) := by decide +kernel
theorem dX11_digest_105 : decode cX11_digest 105 = .ok (.iload_n 3, 1) := by decide +kernel
theorem dX11_digest_106 : decode cX11_digest 106 = .ok (.invokevirtual 247, 3) := by decide +kernel
theorem dX11_digest_109 : decode cX11_digest 109 = .ok (.invokestatic 262, 3) := by decide +kernel
theorem dX11_digest_112 : decode cX11_digest 112 = .ok (.ladd, 1) := by decide +kernel
theorem dX11_digest_113 : decode cX11_digest 113 = .ok (.lstore_n 1, 1) := by decide +kernel
theorem dX11_digest_114 : decode cX11_digest 114 = .ok (.iinc 3 1, 3) := by decide +kernel
theorem dX11_digest_117 : decode cX11_digest 117 = .ok (.goto (-24), 3) := by decide +kernel
theorem dX11_digest_120 : decode cX11_digest 120 = .ok (.ldc2_w 250, 3) := by decide +kernel
theorem dX11_digest_123 : decode cX11_digest 123 = .ok (.lload_n 1, 1) := by decide +kernel
theorem dX11_digest_124 : decode cX11_digest 124 = .ok (.lmul, 1) := by decide +kernel
theorem dX11_digest_125 : decode cX11_digest 125 = .ok (.aload_n 0, 1) := by decide +kernel
theorem dX11_digest_126 : decode cX11_digest 126 = .ok (.getfield 7, 3) := by decide +kernel
theorem dX11_digest_129 : decode cX11_digest 129 = .ok (.iconst 1, 1) := by decide +kernel
theorem dX11_digest_130 : decode cX11_digest 130 = .ok (.iaload, 1) := by decide +kernel
theorem dX11_digest_131 : decode cX11_digest 131 = .ok (.iconst (-1), 1) := by decide +kernel
theorem dX11_digest_132 : decode cX11_digest 132 = .ok (.if_icmp .ne 7, 3) := by decide +kernel
theorem dX11_digest_135 : decode cX11_digest 135 = .ok (.iconst 0, 1) := by decide +kernel
theorem dX11_digest_136 : decode cX11_digest 136 = .ok (.goto 4, 3) := by decide +kernel
theorem dX11_digest_139 : decode cX11_digest 139 = .ok (.iconst 1, 1) := by decide +kernel
theorem dX11_digest_140 : decode cX11_digest 140 = .ok (.i2l, 1) := by decide +kernel
theorem dX11_digest_141 : decode cX11_digest 141 = .ok (.ladd, 1) := by decide +kernel
theorem dX11_digest_142 : decode cX11_digest 142 = .ok (.lstore_n 1, 1) := by decide +kernel
theorem dX11_digest_143 : decode cX11_digest 143 = .ok (.aload_n 0, 1) := by decide +kernel
theorem dX11_digest_144 : decode cX11_digest 144 = .ok (.getfield 7, 3) := by decide +kernel
theorem dX11_digest_147 : decode cX11_digest 147 = .ok (.iconst 1, 1) := by decide +kernel
theorem dX11_digest_148 : decode cX11_digest 148 = .ok (.iaload, 1) := by decide +kernel
theorem dX11_digest_149 : decode cX11_digest 149 = .ok (.iconst (-1), 1) := by decide +kernel
theorem dX11_digest_150 : decode cX11_digest 150 = .ok (.if_icmp .ne 7, 3) := by decide +kernel
theorem dX11_digest_153 : decode cX11_digest 153 = .ok (.lload_n 1, 1) := by decide +kernel
theorem dX11_digest_154 : decode cX11_digest 154 = .ok (.goto 28, 3) := by decide +kernel
theorem dX11_digest_157 : decode cX11_digest 157 = .ok (.ldc2_w 250, 3) := by decide +kernel
theorem dX11_digest_160 : decode cX11_digest 160 = .ok (.ldc2_w 250, 3) := by decide +kernel
theorem dX11_digest_163 : decode cX11_digest 163 = .ok (.lload_n 1, 1) := by decide +kernel
theorem dX11_digest_164 : decode cX11_digest 164 = .ok (.lmul, 1) := by decide +kernel
theorem dX11_digest_165 : decode cX11_digest 165 = .ok (.aload_n 0, 1) := by decide +kernel
theorem dX11_digest_166 : decode cX11_digest 166 = .ok (.getfield 7, 3) := by decide +kernel
theorem dX11_digest_169 : decode cX11_digest 169 = .ok (.iconst 1, 1) := by decide +kernel
theorem dX11_digest_170 : decode cX11_digest 170 = .ok (.iaload, 1) := by decide +kernel
theorem dX11_digest_171 : decode cX11_digest 171 = .ok (.i2l, 1) := by decide +kernel
theorem dX11_digest_172 : decode cX11_digest 172 = .ok (.ladd, 1) := by decide +kernel
theorem dX11_digest_173 : decode cX11_digest 173 = .ok (.lmul, 1) := by decide +kernel
theorem dX11_digest_174 : decode cX11_digest 174 = .ok (.aload_n 0, 1) := by decide +kernel
theorem dX11_digest_175 : decode cX11_digest 175 = .ok (.getfield 7, 3) := by decide +kernel
theorem dX11_digest_178 : decode cX11_digest 178 = .ok (.iconst 2, 1) := by decide +kernel
theorem dX11_digest_179 : decode cX11_digest 179 = .ok (.iaload, 1) := by decide +kernel
theorem dX11_digest_180 : decode cX11_digest 180 = .ok (.i2l, 1) := by decide +kernel
theorem dX11_digest_181 : decode cX11_digest 181 = .ok (.ladd, 1) := by decide +kernel
theorem dX11_digest_182 : decode cX11_digest 182 = .ok (.lstore_n 1, 1) := by decide +kernel
theorem dX11_digest_183 : decode cX11_digest 183 = .ok (.ldc2_w 250, 3) := by decide +kernel
theorem dX11_digest_186 : decode cX11_digest 186 = .ok (.lload_n 1, 1) := by decide +kernel
theorem dX11_digest_187 : decode cX11_digest 187 = .ok (.lmul, 1) := by decide +kernel
theorem dX11_digest_188 : decode cX11_digest 188 = .ok (.aload_n 0, 1) := by decide +kernel
theorem dX11_digest_189 : decode cX11_digest 189 = .ok (.getfield 148, 3) := by decide +kernel
theorem dX11_digest_192 : decode cX11_digest 192 = .ok (.i2l, 1) := by decide +kernel
theorem dX11_digest_193 : decode cX11_digest 193 = .ok (.ladd, 1) := by decide +kernel
theorem dX11_digest_194 : decode cX11_digest 194 = .ok (.lstore_n 1, 1) := by decide +kernel
theorem dX11_digest_195 : decode cX11_digest 195 = .ok (.iconst 0, 1) := by decide +kernel
theorem dX11_digest_196 : decode cX11_digest 196 = .ok (.istore_n 3, 1) := by decide +kernel
theorem dX11_digest_197 : decode cX11_digest 197 = .ok (.iload_n 3, 1) := by decide +kernel
theorem dX11_digest_198 : decode cX11_digest 198 = .ok (.aload_n 0, 1) := by decide +kernel
theorem dX11_digest_199 : decode cX11_digest 199 = .ok (.getfield 148, 3) := by decide +kernel
theorem dX11_digest_202 : decode cX11_digest 202 = .ok (.if_icmp .ge 23, 3) := by decide +kernel
theorem dX11_digest_205 : decode cX11_digest 205 = .ok (.ldc2_w 250, 3) := by decide +kernel
theorem dX11_digest_208 : decode cX11_digest 208 = .ok (.lload_n 1, 1) := by decide +kernel
theorem dX11_digest_209 : decode cX11_digest 209 = .ok (.lmul, 1) := by decide +kernel
theorem dX11_digest_210 : decode cX11_digest 210 = .ok (.aload_n 0, 1) := by decide +kernel
theorem dX11_digest_211 : decode cX11_digest 211 = .ok (.getfield 19, 3) := by decide +kernel
theorem dX11_digest_214 : decode cX11_digest 214 = .ok (.iload_n 3, 1) := by decide +kernel
theorem dX11_digest_215 : decode cX11_digest 215 = .ok (.iaload, 1) := by decide +kernel
theorem dX11_digest_216 : decode cX11_digest 216 = .ok (.i2l, 1) := by decide +kernel
theorem dX11_digest_217 : decode cX11_digest 217 = .ok (.ladd, 1) := by decide +kernel
theorem dX11_digest_218 : decode cX11_digest 218 = .ok (.lstore_n 1, 1) := by decide +kernel
theorem dX11_digest_219 : decode cX11_digest 219 = .ok (.iinc 3 1, 3) := by decide +kernel
theorem dX11_digest_222 : decode cX11_digest 222 = .ok (.goto (-25), 3) := by decide +kernel
theorem dX11_digest_225 : decode cX11_digest 225 = .ok (.lload_n 1, 1) := by decide +kernel
theorem dX11_digest_226 : decode cX11_digest 226 = .ok (.lreturn, 1) := by decide +kernel
theorem dJxe99ae_isNaN_b9ae7_0 : decode cJxe99ae_isNaN_b9ae7 0 = .ok (.dload_n 0, 1) := by decide +kernel
theorem dJxe99ae_isNaN_b9ae7_1 : decode cJxe99ae_isNaN_b9ae7 1 = .ok (.dload_n 0, 1) := by decide +kernel
theorem dJxe99ae_isNaN_b9ae7_2 : decode cJxe99ae_isNaN_b9ae7 2 = .ok (.dcmp .l, 1) := by decide +kernel
theorem dJxe99ae_isNaN_b9ae7_3 : decode cJxe99ae_isNaN_b9ae7 3 = .ok (.ifCond .eq 7, 3) := by decide +kernel
theorem dJxe99ae_isNaN_b9ae7_6 : decode cJxe99ae_isNaN_b9ae7 6 = .ok (.iconst 1, 1) := by decide +kernel
theorem dJxe99ae_isNaN_b9ae7_7 : decode cJxe99ae_isNaN_b9ae7 7 = .ok (.goto 4, 3) := by decide +kernel
theorem dJxe99ae_isNaN_b9ae7_10 : decode cJxe99ae_isNaN_b9ae7 10 = .ok (.iconst 0, 1) := by decide +kernel
theorem dJxe99ae_isNaN_b9ae7_11 : decode cJxe99ae_isNaN_b9ae7 11 = .ok (.ireturn, 1) := by decide +kernel
theorem dJxe99ae_doubleToLongBits_ccdee_0 : decode cJxe99ae_doubleToLongBits_ccdee 0 = .ok (.dload_n 0, 1) := by decide +kernel
theorem dJxe99ae_doubleToLongBits_ccdee_1 : decode cJxe99ae_doubleToLongBits_ccdee 1 = .ok (.invokestatic 122, 3) := by decide +kernel
theorem dJxe99ae_doubleToLongBits_ccdee_4 : decode cJxe99ae_doubleToLongBits_ccdee 4 = .ok (.ifCond .ne 8, 3) := by decide +kernel
theorem dJxe99ae_doubleToLongBits_ccdee_7 : decode cJxe99ae_doubleToLongBits_ccdee 7 = .ok (.dload_n 0, 1) := by decide +kernel
theorem dJxe99ae_doubleToLongBits_ccdee_8 : decode cJxe99ae_doubleToLongBits_ccdee 8 = .ok (.invokestatic 134, 3) := by decide +kernel
theorem dJxe99ae_doubleToLongBits_ccdee_11 : decode cJxe99ae_doubleToLongBits_ccdee 11 = .ok (.lreturn, 1) := by decide +kernel
theorem dJxe99ae_doubleToLongBits_ccdee_12 : decode cJxe99ae_doubleToLongBits_ccdee 12 = .ok (.ldc2_w 137, 3) := by decide +kernel
theorem dJxe99ae_doubleToLongBits_ccdee_15 : decode cJxe99ae_doubleToLongBits_ccdee 15 = .ok (.lreturn, 1) := by decide +kernel
theorem dJ9_abs_0f7a4_0 : decode cJ9_abs_0f7a4 0 = .ok (.iload_n 0, 1) := by decide +kernel
theorem dJ9_abs_0f7a4_1 : decode cJ9_abs_0f7a4 1 = .ok (.ifCond .ge 8, 3) := by decide +kernel
theorem dJ9_abs_0f7a4_4 : decode cJ9_abs_0f7a4 4 = .ok (.iload_n 0, 1) := by decide +kernel
theorem dJ9_abs_0f7a4_5 : decode cJ9_abs_0f7a4 5 = .ok (.ineg, 1) := by decide +kernel
theorem dJ9_abs_0f7a4_6 : decode cJ9_abs_0f7a4 6 = .ok (.goto 4, 3) := by decide +kernel
theorem dJ9_abs_0f7a4_9 : decode cJ9_abs_0f7a4 9 = .ok (.iload_n 0, 1) := by decide +kernel
theorem dJ9_abs_0f7a4_10 : decode cJ9_abs_0f7a4 10 = .ok (.ireturn, 1) := by decide +kernel
theorem dJ9_abs_067f4_0 : decode cJ9_abs_067f4 0 = .ok (.lload_n 0, 1) := by decide +kernel
theorem dJ9_abs_067f4_1 : decode cJ9_abs_067f4 1 = .ok (.lconst 0, 1) := by decide +kernel
theorem dJ9_abs_067f4_2 : decode cJ9_abs_067f4 2 = .ok (.lcmp, 1) := by decide +kernel
theorem dJ9_abs_067f4_3 : decode cJ9_abs_067f4 3 = .ok (.ifCond .ge 8, 3) := by decide +kernel
theorem dJ9_abs_067f4_6 : decode cJ9_abs_067f4 6 = .ok (.lload_n 0, 1) := by decide +kernel
theorem dJ9_abs_067f4_7 : decode cJ9_abs_067f4 7 = .ok (.lneg, 1) := by decide +kernel
theorem dJ9_abs_067f4_8 : decode cJ9_abs_067f4 8 = .ok (.goto 4, 3) := by decide +kernel
theorem dJ9_abs_067f4_11 : decode cJ9_abs_067f4 11 = .ok (.lload_n 0, 1) := by decide +kernel
theorem dJ9_abs_067f4_12 : decode cJ9_abs_067f4 12 = .ok (.lreturn, 1) := by decide +kernel
theorem dJ9_max_7cf53_0 : decode cJ9_max_7cf53 0 = .ok (.iload_n 0, 1) := by decide +kernel
theorem dJ9_max_7cf53_1 : decode cJ9_max_7cf53 1 = .ok (.iload_n 1, 1) := by decide +kernel
theorem dJ9_max_7cf53_2 : decode cJ9_max_7cf53 2 = .ok (.if_icmp .lt 7, 3) := by decide +kernel
theorem dJ9_max_7cf53_5 : decode cJ9_max_7cf53 5 = .ok (.iload_n 0, 1) := by decide +kernel
theorem dJ9_max_7cf53_6 : decode cJ9_max_7cf53 6 = .ok (.goto 4, 3) := by decide +kernel
theorem dJ9_max_7cf53_9 : decode cJ9_max_7cf53 9 = .ok (.iload_n 1, 1) := by decide +kernel
theorem dJ9_max_7cf53_10 : decode cJ9_max_7cf53 10 = .ok (.ireturn, 1) := by decide +kernel
theorem dJ9_min_7cf53_0 : decode cJ9_min_7cf53 0 = .ok (.iload_n 0, 1) := by decide +kernel
theorem dJ9_min_7cf53_1 : decode cJ9_min_7cf53 1 = .ok (.iload_n 1, 1) := by decide +kernel
theorem dJ9_min_7cf53_2 : decode cJ9_min_7cf53 2 = .ok (.if_icmp .gt 7, 3) := by decide +kernel
theorem dJ9_min_7cf53_5 : decode cJ9_min_7cf53 5 = .ok (.iload_n 0, 1) := by decide +kernel
theorem dJ9_min_7cf53_6 : decode cJ9_min_7cf53 6 = .ok (.goto 4, 3) := by decide +kernel
theorem dJ9_min_7cf53_9 : decode cJ9_min_7cf53 9 = .ok (.iload_n 1, 1) := by decide +kernel
theorem dJ9_min_7cf53_10 : decode cJ9_min_7cf53 10 = .ok (.ireturn, 1) := by decide +kernel
theorem dL_setBase_0 : decode cL_setBase 0 = .ok (.aload_n 2, 1) := by decide +kernel
theorem dL_setBase_1 : decode cL_setBase 1 = .ok (.iconst 0, 1) := by decide +kernel
theorem dL_setBase_2 : decode cL_setBase 2 = .ok (.aload_n 0, 1) := by decide +kernel
theorem dL_setBase_3 : decode cL_setBase 3 = .ok (.iload_n 1, 1) := by decide +kernel
theorem dL_setBase_4 : decode cL_setBase 4 = .ok (.invokevirtual 7, 3) := by decide +kernel
theorem dL_setBase_7 : decode cL_setBase 7 = .ok (.i2l, 1) := by decide +kernel
theorem dL_setBase_8 : decode cL_setBase 8 = .ok (.lastore, 1) := by decide +kernel
theorem dL_setBase_9 : decode cL_setBase 9 = .ok (.goto 6, 3) := by decide +kernel
theorem dL_setBase_12 : decode cL_setBase 12 = .ok (.astore_n 3, 1) := by decide +kernel
theorem dL_setBase_13 : decode cL_setBase 13 = .ok (.iconst 1, 1) := by decide +kernel
theorem dL_setBase_14 : decode cL_setBase 14 = .ok (.ireturn, 1) := by decide +kernel
theorem dL_setBase_15 : decode cL_setBase 15 = .ok (.iconst 0, 1) := by decide +kernel
theorem dL_setBase_16 : decode cL_setBase 16 = .ok (.ireturn, 1) := by decide +kernel
theorem dL_setFraction_0 : decode cL_setFraction 0 = .ok (.aload 4, 2) := by decide +kernel
theorem dL_setFraction_2 : decode cL_setFraction 2 = .ok (.iconst 0, 1) := by decide +kernel
theorem dL_setFraction_3 : decode cL_setFraction 3 = .ok (.aload_n 0, 1) := by decide +kernel
theorem dL_setFraction_4 : decode cL_setFraction 4 = .ok (.iload_n 1, 1) := by decide +kernel
theorem dL_setFraction_5 : decode cL_setFraction 5 = .ok (.iload_n 2, 1) := by decide +kernel
theorem dL_setFraction_6 : decode cL_setFraction 6 = .ok (.iload_n 3, 1) := by decide +kernel
theorem dL_setFraction_7 : decode cL_setFraction 7 = .ok (.invokevirtual 15, 3) := by decide +kernel
theorem dL_setFraction_10 : decode cL_setFraction 10 = .ok (.i2l, 1) := by decide +kernel
theorem dL_setFraction_11 : decode cL_setFraction 11 = .ok (.lastore, 1) := by decide +kernel
theorem dL_setFraction_12 : decode cL_setFraction 12 = .ok (.goto 11, 3) := by decide +kernel
theorem dL_setFraction_15 : decode cL_setFraction 15 = .ok (.astore 5, 2) := by decide +kernel
theorem dL_setFraction_17 : decode cL_setFraction 17 = .ok (.iconst 1, 1) := by decide +kernel
theorem dL_setFraction_18 : decode cL_setFraction 18 = .ok (.ireturn, 1) := by decide +kernel
theorem dL_setFraction_19 : decode cL_setFraction 19 = .ok (.astore 5, 2) := by decide +kernel
theorem dL_setFraction_21 : decode cL_setFraction 21 = .ok (.iconst 2, 1) := by decide +kernel
theorem dL_setFraction_22 : decode cL_setFraction 22 = .ok (.ireturn, 1) := by decide +kernel
theorem dL_setFraction_23 : decode cL_setFraction 23 = .ok (.iconst 0, 1) := by decide +kernel
theorem dL_setFraction_24 : decode cL_setFraction 24 = .ok (.ireturn, 1) := by decide +kernel
theorem dL_add_0 : decode cL_add 0 = .ok (.aload_n 3, 1) := by decide +kernel
theorem dL_add_1 : decode cL_add 1 = .ok (.iconst 0, 1) := by decide +kernel
theorem dL_add_2 : decode cL_add 2 = .ok (.aload_n 0, 1) := by decide +kernel
theorem dL_add_3 : decode cL_add 3 = .ok (.iload_n 1, 1) := by decide +kernel
theorem dL_add_4 : decode cL_add 4 = .ok (.iload_n 2, 1) := by decide +kernel
theorem dL_add_5 : decode cL_add 5 = .ok (.invokevirtual 21, 3) := by decide +kernel
theorem dL_add_8 : decode cL_add 8 = .ok (.i2l, 1) := by decide +kernel
theorem dL_add_9 : decode cL_add 9 = .ok (.lastore, 1) := by decide +kernel
theorem dL_add_10 : decode cL_add 10 = .ok (.goto 11, 3) := by decide +kernel
theorem dL_add_13 : decode cL_add 13 = .ok (.astore 4, 2) := by decide +kernel
theorem dL_add_15 : decode cL_add 15 = .ok (.iconst 1, 1) := by decide +kernel
theorem dL_add_16 : decode cL_add 16 = .ok (.ireturn, 1) := by decide +kernel
theorem dL_add_17 : decode cL_add 17 = .ok (.astore 4, 2) := by decide +kernel
theorem dL_add_19 : decode cL_add 19 = .ok (.iconst 2, 1) := by decide +kernel
theorem dL_add_20 : decode cL_add 20 = .ok (.ireturn, 1) := by decide +kernel
theorem dL_add_21 : decode cL_add 21 = .ok (.iconst 0, 1) := by decide +kernel
theorem dL_add_22 : decode cL_add 22 = .ok (.ireturn, 1) := by decide +kernel
theorem dL_subtract_0 : decode cL_subtract 0 = .ok (.aload_n 3, 1) := by decide +kernel
theorem dL_subtract_1 : decode cL_subtract 1 = .ok (.iconst 0, 1) := by decide +kernel
theorem dL_subtract_2 : decode cL_subtract 2 = .ok (.aload_n 0, 1) := by decide +kernel
theorem dL_subtract_3 : decode cL_subtract 3 = .ok (.iload_n 1, 1) := by decide +kernel
theorem dL_subtract_4 : decode cL_subtract 4 = .ok (.iload_n 2, 1) := by decide +kernel
theorem dL_subtract_5 : decode cL_subtract 5 = .ok (.invokevirtual 27, 3) := by decide +kernel
theorem dL_subtract_8 : decode cL_subtract 8 = .ok (.i2l, 1) := by decide +kernel
theorem dL_subtract_9 : decode cL_subtract 9 = .ok (.lastore, 1) := by decide +kernel
theorem dL_subtract_10 : decode cL_subtract 10 = .ok (.goto 11, 3) := by decide +kernel
theorem dL_subtract_13 : decode cL_subtract 13 = .ok (.astore 4, 2) := by decide +kernel
theorem dL_subtract_15 : decode cL_subtract 15 = .ok (.iconst 1, 1) := by decide +kernel
theorem dL_subtract_16 : decode cL_subtract 16 = .ok (.ireturn, 1) := by decide +kernel
theorem dL_subtract_17 : decode cL_subtract 17 = .ok (.astore 4, 2) := by decide +kernel
theorem dL_subtract_19 : decode cL_subtract 19 = .ok (.iconst 2, 1) := by decide +kernel
theorem dL_subtract_20 : decode cL_subtract 20 = .ok (.ireturn, 1) := by decide +kernel
theorem dL_subtract_21 : decode cL_subtract 21 = .ok (.iconst 0, 1) := by decide +kernel
theorem dL_subtract_22 : decode cL_subtract 22 = .ok (.ireturn, 1) := by decide +kernel
theorem dL_shift_0 : decode cL_shift 0 = .ok (.aload_n 3, 1) := by decide +kernel
theorem dL_shift_1 : decode cL_shift 1 = .ok (.iconst 0, 1) := by decide +kernel
theorem dL_shift_2 : decode cL_shift 2 = .ok (.aload_n 0, 1) := by decide +kernel
theorem dL_shift_3 : decode cL_shift 3 = .ok (.iload_n 1, 1) := by decide +kernel
theorem dL_shift_4 : decode cL_shift 4 = .ok (.iload_n 2, 1) := by decide +kernel
theorem dL_shift_5 : decode cL_shift 5 = .ok (.invokevirtual 30, 3) := by decide +kernel
theorem dL_shift_8 : decode cL_shift 8 = .ok (.i2l, 1) := by decide +kernel
theorem dL_shift_9 : decode cL_shift 9 = .ok (.lastore, 1) := by decide +kernel
theorem dL_shift_10 : decode cL_shift 10 = .ok (.goto 15, 3) := by decide +kernel
theorem dL_shift_13 : decode cL_shift 13 = .ok (.astore 4, 2) := by decide +kernel
theorem dL_shift_15 : decode cL_shift 15 = .ok (.iconst 1, 1) := by decide +kernel
theorem dL_shift_16 : decode cL_shift 16 = .ok (.ireturn, 1) := by decide +kernel
theorem dL_shift_17 : decode cL_shift 17 = .ok (.astore 4, 2) := by decide +kernel
theorem dL_shift_19 : decode cL_shift 19 = .ok (.iconst 2, 1) := by decide +kernel
theorem dL_shift_20 : decode cL_shift 20 = .ok (.ireturn, 1) := by decide +kernel
theorem dL_shift_21 : decode cL_shift 21 = .ok (.astore 4, 2) := by decide +kernel
theorem dL_shift_23 : decode cL_shift 23 = .ok (.iconst 3, 1) := by decide +kernel
theorem dL_shift_24 : decode cL_shift 24 = .ok (.ireturn, 1) := by decide +kernel
theorem dL_shift_25 : decode cL_shift 25 = .ok (.iconst 0, 1) := by decide +kernel
theorem dL_shift_26 : decode cL_shift 26 = .ok (.ireturn, 1) := by decide +kernel
theorem dL_pay_0 : decode cL_pay 0 = .ok (.aload 4, 2) := by decide +kernel
theorem dL_pay_2 : decode cL_pay 2 = .ok (.iconst 0, 1) := by decide +kernel
theorem dL_pay_3 : decode cL_pay 3 = .ok (.aload_n 0, 1) := by decide +kernel
theorem dL_pay_4 : decode cL_pay 4 = .ok (.iload_n 1, 1) := by decide +kernel
theorem dL_pay_5 : decode cL_pay 5 = .ok (.iload_n 2, 1) := by decide +kernel
theorem dL_pay_6 : decode cL_pay 6 = .ok (.iload_n 3, 1) := by decide +kernel
theorem dL_pay_7 : decode cL_pay 7 = .ok (.invokevirtual 33, 3) := by decide +kernel
theorem dL_pay_10 : decode cL_pay 10 = .ok (.i2l, 1) := by decide +kernel
theorem dL_pay_11 : decode cL_pay 11 = .ok (.lastore, 1) := by decide +kernel
theorem dL_pay_12 : decode cL_pay 12 = .ok (.goto 15, 3) := by decide +kernel
theorem dL_pay_15 : decode cL_pay 15 = .ok (.astore 5, 2) := by decide +kernel
theorem dL_pay_17 : decode cL_pay 17 = .ok (.iconst 1, 1) := by decide +kernel
theorem dL_pay_18 : decode cL_pay 18 = .ok (.ireturn, 1) := by decide +kernel
theorem dL_pay_19 : decode cL_pay 19 = .ok (.astore 5, 2) := by decide +kernel
theorem dL_pay_21 : decode cL_pay 21 = .ok (.iconst 2, 1) := by decide +kernel
theorem dL_pay_22 : decode cL_pay 22 = .ok (.ireturn, 1) := by decide +kernel
theorem dL_pay_23 : decode cL_pay 23 = .ok (.astore 5, 2) := by decide +kernel
theorem dL_pay_25 : decode cL_pay 25 = .ok (.iconst 3, 1) := by decide +kernel
theorem dL_pay_26 : decode cL_pay 26 = .ok (.ireturn, 1) := by decide +kernel
theorem dL_pay_27 : decode cL_pay 27 = .ok (.iconst 0, 1) := by decide +kernel
theorem dL_pay_28 : decode cL_pay 28 = .ok (.ireturn, 1) := by decide +kernel
theorem dL_append_0 : decode cL_append 0 = .ok (.aload_n 2, 1) := by decide +kernel
theorem dL_append_1 : decode cL_append 1 = .ok (.iconst 0, 1) := by decide +kernel
theorem dL_append_2 : decode cL_append 2 = .ok (.aload_n 0, 1) := by decide +kernel
theorem dL_append_3 : decode cL_append 3 = .ok (.iload_n 1, 1) := by decide +kernel
theorem dL_append_4 : decode cL_append 4 = .ok (.invokevirtual 36, 3) := by decide +kernel
theorem dL_append_7 : decode cL_append 7 = .ok (.i2l, 1) := by decide +kernel
theorem dL_append_8 : decode cL_append 8 = .ok (.lastore, 1) := by decide +kernel
theorem dL_append_9 : decode cL_append 9 = .ok (.goto 9, 3) := by decide +kernel
theorem dL_append_12 : decode cL_append 12 = .ok (.astore_n 3, 1) := by decide +kernel
theorem dL_append_13 : decode cL_append 13 = .ok (.iconst 1, 1) := by decide +kernel
theorem dL_append_14 : decode cL_append 14 = .ok (.ireturn, 1) := by decide +kernel
theorem dL_append_15 : decode cL_append 15 = .ok (.astore_n 3, 1) := by decide +kernel
theorem dL_append_16 : decode cL_append 16 = .ok (.iconst 2, 1) := by decide +kernel
theorem dL_append_17 : decode cL_append 17 = .ok (.ireturn, 1) := by decide +kernel
theorem dL_append_18 : decode cL_append 18 = .ok (.iconst 0, 1) := by decide +kernel
theorem dL_append_19 : decode cL_append 19 = .ok (.ireturn, 1) := by decide +kernel
theorem dL_enter_0 : decode cL_enter 0 = .ok (.aload_n 1, 1) := by decide +kernel
theorem dL_enter_1 : decode cL_enter 1 = .ok (.iconst 0, 1) := by decide +kernel
theorem dL_enter_2 : decode cL_enter 2 = .ok (.aload_n 0, 1) := by decide +kernel
theorem dL_enter_3 : decode cL_enter 3 = .ok (.invokevirtual 39, 3) := by decide +kernel
theorem dL_enter_6 : decode cL_enter 6 = .ok (.i2l, 1) := by decide +kernel
theorem dL_enter_7 : decode cL_enter 7 = .ok (.lastore, 1) := by decide +kernel
theorem dL_enter_8 : decode cL_enter 8 = .ok (.goto 6, 3) := by decide +kernel
theorem dL_enter_11 : decode cL_enter 11 = .ok (.astore_n 2, 1) := by decide +kernel
theorem dL_enter_12 : decode cL_enter 12 = .ok (.iconst 1, 1) := by decide +kernel
theorem dL_enter_13 : decode cL_enter 13 = .ok (.ireturn, 1) := by decide +kernel
theorem dL_enter_14 : decode cL_enter 14 = .ok (.iconst 0, 1) := by decide +kernel
theorem dL_enter_15 : decode cL_enter 15 = .ok (.ireturn, 1) := by decide +kernel
theorem dL_stoppedPart_0 : decode cL_stoppedPart 0 = .ok (.aload_n 1, 1) := by decide +kernel
theorem dL_stoppedPart_1 : decode cL_stoppedPart 1 = .ok (.iconst 0, 1) := by decide +kernel
theorem dL_stoppedPart_2 : decode cL_stoppedPart 2 = .ok (.aload_n 0, 1) := by decide +kernel
theorem dL_stoppedPart_3 : decode cL_stoppedPart 3 = .ok (.invokevirtual 43, 3) := by decide +kernel
theorem dL_stoppedPart_6 : decode cL_stoppedPart 6 = .ok (.i2l, 1) := by decide +kernel
theorem dL_stoppedPart_7 : decode cL_stoppedPart 7 = .ok (.lastore, 1) := by decide +kernel
theorem dL_stoppedPart_8 : decode cL_stoppedPart 8 = .ok (.goto 6, 3) := by decide +kernel
theorem dL_stoppedPart_11 : decode cL_stoppedPart 11 = .ok (.astore_n 2, 1) := by decide +kernel
theorem dL_stoppedPart_12 : decode cL_stoppedPart 12 = .ok (.iconst 1, 1) := by decide +kernel
theorem dL_stoppedPart_13 : decode cL_stoppedPart 13 = .ok (.ireturn, 1) := by decide +kernel
theorem dL_stoppedPart_14 : decode cL_stoppedPart 14 = .ok (.iconst 0, 1) := by decide +kernel
theorem dL_stoppedPart_15 : decode cL_stoppedPart 15 = .ok (.ireturn, 1) := by decide +kernel
theorem dL_whyStopped_0 : decode cL_whyStopped 0 = .ok (.aload_n 1, 1) := by decide +kernel
theorem dL_whyStopped_1 : decode cL_whyStopped 1 = .ok (.iconst 0, 1) := by decide +kernel
theorem dL_whyStopped_2 : decode cL_whyStopped 2 = .ok (.aload_n 0, 1) := by decide +kernel
theorem dL_whyStopped_3 : decode cL_whyStopped 3 = .ok (.invokevirtual 46, 3) := by decide +kernel
theorem dL_whyStopped_6 : decode cL_whyStopped 6 = .ok (.i2l, 1) := by decide +kernel
theorem dL_whyStopped_7 : decode cL_whyStopped 7 = .ok (.lastore, 1) := by decide +kernel
theorem dL_whyStopped_8 : decode cL_whyStopped 8 = .ok (.goto 6, 3) := by decide +kernel
theorem dL_whyStopped_11 : decode cL_whyStopped 11 = .ok (.astore_n 2, 1) := by decide +kernel
theorem dL_whyStopped_12 : decode cL_whyStopped 12 = .ok (.iconst 1, 1) := by decide +kernel
theorem dL_whyStopped_13 : decode cL_whyStopped 13 = .ok (.ireturn, 1) := by decide +kernel
theorem dL_whyStopped_14 : decode cL_whyStopped 14 = .ok (.iconst 0, 1) := by decide +kernel
theorem dL_whyStopped_15 : decode cL_whyStopped 15 = .ok (.ireturn, 1) := by decide +kernel
theorem dL_undo_0 : decode cL_undo 0 = .ok (.aload_n 1, 1) := by decide +kernel
theorem dL_undo_1 : decode cL_undo 1 = .ok (.iconst 0, 1) := by decide +kernel
theorem dL_undo_2 : decode cL_undo 2 = .ok (.aload_n 0, 1) := by decide +kernel
theorem dL_undo_3 : decode cL_undo 3 = .ok (.invokevirtual 49, 3) := by decide +kernel
theorem dL_undo_6 : decode cL_undo 6 = .ok (.i2l, 1) := by decide +kernel
theorem dL_undo_7 : decode cL_undo 7 = .ok (.lastore, 1) := by decide +kernel
theorem dL_undo_8 : decode cL_undo 8 = .ok (.goto 6, 3) := by decide +kernel
theorem dL_undo_11 : decode cL_undo 11 = .ok (.astore_n 2, 1) := by decide +kernel
theorem dL_undo_12 : decode cL_undo 12 = .ok (.iconst 1, 1) := by decide +kernel
theorem dL_undo_13 : decode cL_undo 13 = .ok (.ireturn, 1) := by decide +kernel
theorem dL_undo_14 : decode cL_undo 14 = .ok (.iconst 0, 1) := by decide +kernel
theorem dL_undo_15 : decode cL_undo 15 = .ok (.ireturn, 1) := by decide +kernel
theorem dL_restore_0 : decode cL_restore 0 = .ok (.aload_n 1, 1) := by decide +kernel
theorem dL_restore_1 : decode cL_restore 1 = .ok (.iconst 0, 1) := by decide +kernel
theorem dL_restore_2 : decode cL_restore 2 = .ok (.aload_n 0, 1) := by decide +kernel
theorem dL_restore_3 : decode cL_restore 3 = .ok (.invokevirtual 52, 3) := by decide +kernel
theorem dL_restore_6 : decode cL_restore 6 = .ok (.i2l, 1) := by decide +kernel
theorem dL_restore_7 : decode cL_restore 7 = .ok (.lastore, 1) := by decide +kernel
theorem dL_restore_8 : decode cL_restore 8 = .ok (.goto 6, 3) := by decide +kernel
theorem dL_restore_11 : decode cL_restore 11 = .ok (.astore_n 2, 1) := by decide +kernel
theorem dL_restore_12 : decode cL_restore 12 = .ok (.iconst 1, 1) := by decide +kernel
theorem dL_restore_13 : decode cL_restore 13 = .ok (.ireturn, 1) := by decide +kernel
theorem dL_restore_14 : decode cL_restore 14 = .ok (.iconst 0, 1) := by decide +kernel
theorem dL_restore_15 : decode cL_restore 15 = .ok (.ireturn, 1) := by decide +kernel
theorem dL_numerator_0 : decode cL_numerator 0 = .ok (.aload_n 2, 1) := by decide +kernel
theorem dL_numerator_1 : decode cL_numerator 1 = .ok (.iconst 0, 1) := by decide +kernel
theorem dL_numerator_2 : decode cL_numerator 2 = .ok (.aload_n 0, 1) := by decide +kernel
theorem dL_numerator_3 : decode cL_numerator 3 = .ok (.iload_n 1, 1) := by decide +kernel
theorem dL_numerator_4 : decode cL_numerator 4 = .ok (.invokevirtual 55, 3) := by decide +kernel
theorem dL_numerator_7 : decode cL_numerator 7 = .ok (.i2l, 1) := by decide +kernel
theorem dL_numerator_8 : decode cL_numerator 8 = .ok (.lastore, 1) := by decide +kernel
theorem dL_numerator_9 : decode cL_numerator 9 = .ok (.goto 6, 3) := by decide +kernel
theorem dL_numerator_12 : decode cL_numerator 12 = .ok (.astore_n 3, 1) := by decide +kernel
theorem dL_numerator_13 : decode cL_numerator 13 = .ok (.iconst 1, 1) := by decide +kernel
theorem dL_numerator_14 : decode cL_numerator 14 = .ok (.ireturn, 1) := by decide +kernel
theorem dL_numerator_15 : decode cL_numerator 15 = .ok (.iconst 0, 1) := by decide +kernel
theorem dL_numerator_16 : decode cL_numerator 16 = .ok (.ireturn, 1) := by decide +kernel
theorem dL_denominator_0 : decode cL_denominator 0 = .ok (.aload_n 2, 1) := by decide +kernel
theorem dL_denominator_1 : decode cL_denominator 1 = .ok (.iconst 0, 1) := by decide +kernel
theorem dL_denominator_2 : decode cL_denominator 2 = .ok (.aload_n 0, 1) := by decide +kernel
theorem dL_denominator_3 : decode cL_denominator 3 = .ok (.iload_n 1, 1) := by decide +kernel
theorem dL_denominator_4 : decode cL_denominator 4 = .ok (.invokevirtual 58, 3) := by decide +kernel
theorem dL_denominator_7 : decode cL_denominator 7 = .ok (.i2l, 1) := by decide +kernel
theorem dL_denominator_8 : decode cL_denominator 8 = .ok (.lastore, 1) := by decide +kernel
theorem dL_denominator_9 : decode cL_denominator 9 = .ok (.goto 6, 3) := by decide +kernel
theorem dL_denominator_12 : decode cL_denominator 12 = .ok (.astore_n 3, 1) := by decide +kernel
theorem dL_denominator_13 : decode cL_denominator 13 = .ok (.iconst 1, 1) := by decide +kernel
theorem dL_denominator_14 : decode cL_denominator 14 = .ok (.ireturn, 1) := by decide +kernel
theorem dL_denominator_15 : decode cL_denominator 15 = .ok (.iconst 0, 1) := by decide +kernel
theorem dL_denominator_16 : decode cL_denominator 16 = .ok (.ireturn, 1) := by decide +kernel
theorem dL_whole_0 : decode cL_whole 0 = .ok (.aload_n 2, 1) := by decide +kernel
theorem dL_whole_1 : decode cL_whole 1 = .ok (.iconst 0, 1) := by decide +kernel
theorem dL_whole_2 : decode cL_whole 2 = .ok (.aload_n 0, 1) := by decide +kernel
theorem dL_whole_3 : decode cL_whole 3 = .ok (.iload_n 1, 1) := by decide +kernel
theorem dL_whole_4 : decode cL_whole 4 = .ok (.invokevirtual 61, 3) := by decide +kernel
theorem dL_whole_7 : decode cL_whole 7 = .ok (.i2l, 1) := by decide +kernel
theorem dL_whole_8 : decode cL_whole 8 = .ok (.lastore, 1) := by decide +kernel
theorem dL_whole_9 : decode cL_whole 9 = .ok (.goto 6, 3) := by decide +kernel
theorem dL_whole_12 : decode cL_whole 12 = .ok (.astore_n 3, 1) := by decide +kernel
theorem dL_whole_13 : decode cL_whole 13 = .ok (.iconst 1, 1) := by decide +kernel
theorem dL_whole_14 : decode cL_whole 14 = .ok (.ireturn, 1) := by decide +kernel
theorem dL_whole_15 : decode cL_whole 15 = .ok (.iconst 0, 1) := by decide +kernel
theorem dL_whole_16 : decode cL_whole 16 = .ok (.ireturn, 1) := by decide +kernel
theorem dL_compare_0 : decode cL_compare 0 = .ok (.aload_n 3, 1) := by decide +kernel
theorem dL_compare_1 : decode cL_compare 1 = .ok (.iconst 0, 1) := by decide +kernel
theorem dL_compare_2 : decode cL_compare 2 = .ok (.aload_n 0, 1) := by decide +kernel
theorem dL_compare_3 : decode cL_compare 3 = .ok (.iload_n 1, 1) := by decide +kernel
theorem dL_compare_4 : decode cL_compare 4 = .ok (.iload_n 2, 1) := by decide +kernel
theorem dL_compare_5 : decode cL_compare 5 = .ok (.invokevirtual 64, 3) := by decide +kernel
theorem dL_compare_8 : decode cL_compare 8 = .ok (.i2l, 1) := by decide +kernel
theorem dL_compare_9 : decode cL_compare 9 = .ok (.lastore, 1) := by decide +kernel
theorem dL_compare_10 : decode cL_compare 10 = .ok (.goto 7, 3) := by decide +kernel
theorem dL_compare_13 : decode cL_compare 13 = .ok (.astore 4, 2) := by decide +kernel
theorem dL_compare_15 : decode cL_compare 15 = .ok (.iconst 1, 1) := by decide +kernel
theorem dL_compare_16 : decode cL_compare 16 = .ok (.ireturn, 1) := by decide +kernel
theorem dL_compare_17 : decode cL_compare 17 = .ok (.iconst 0, 1) := by decide +kernel
theorem dL_compare_18 : decode cL_compare 18 = .ok (.ireturn, 1) := by decide +kernel
theorem dL_wholeDigits_0 : decode cL_wholeDigits 0 = .ok (.aload_n 2, 1) := by decide +kernel
theorem dL_wholeDigits_1 : decode cL_wholeDigits 1 = .ok (.iconst 0, 1) := by decide +kernel
theorem dL_wholeDigits_2 : decode cL_wholeDigits 2 = .ok (.aload_n 0, 1) := by decide +kernel
theorem dL_wholeDigits_3 : decode cL_wholeDigits 3 = .ok (.iload_n 1, 1) := by decide +kernel
theorem dL_wholeDigits_4 : decode cL_wholeDigits 4 = .ok (.invokevirtual 67, 3) := by decide +kernel
theorem dL_wholeDigits_7 : decode cL_wholeDigits 7 = .ok (.i2l, 1) := by decide +kernel
theorem dL_wholeDigits_8 : decode cL_wholeDigits 8 = .ok (.lastore, 1) := by decide +kernel
theorem dL_wholeDigits_9 : decode cL_wholeDigits 9 = .ok (.goto 6, 3) := by decide +kernel
theorem dL_wholeDigits_12 : decode cL_wholeDigits 12 = .ok (.astore_n 3, 1) := by decide +kernel
theorem dL_wholeDigits_13 : decode cL_wholeDigits 13 = .ok (.iconst 1, 1) := by decide +kernel
theorem dL_wholeDigits_14 : decode cL_wholeDigits 14 = .ok (.ireturn, 1) := by decide +kernel
theorem dL_wholeDigits_15 : decode cL_wholeDigits 15 = .ok (.iconst 0, 1) := by decide +kernel
theorem dL_wholeDigits_16 : decode cL_wholeDigits 16 = .ok (.ireturn, 1) := by decide +kernel
theorem dL_wholeDigit_0 : decode cL_wholeDigit 0 = .ok (.aload_n 3, 1) := by decide +kernel
theorem dL_wholeDigit_1 : decode cL_wholeDigit 1 = .ok (.iconst 0, 1) := by decide +kernel
theorem dL_wholeDigit_2 : decode cL_wholeDigit 2 = .ok (.aload_n 0, 1) := by decide +kernel
theorem dL_wholeDigit_3 : decode cL_wholeDigit 3 = .ok (.iload_n 1, 1) := by decide +kernel
theorem dL_wholeDigit_4 : decode cL_wholeDigit 4 = .ok (.iload_n 2, 1) := by decide +kernel
theorem dL_wholeDigit_5 : decode cL_wholeDigit 5 = .ok (.invokevirtual 70, 3) := by decide +kernel
theorem dL_wholeDigit_8 : decode cL_wholeDigit 8 = .ok (.i2l, 1) := by decide +kernel
theorem dL_wholeDigit_9 : decode cL_wholeDigit 9 = .ok (.lastore, 1) := by decide +kernel
theorem dL_wholeDigit_10 : decode cL_wholeDigit 10 = .ok (.goto 7, 3) := by decide +kernel
theorem dL_wholeDigit_13 : decode cL_wholeDigit 13 = .ok (.astore 4, 2) := by decide +kernel
theorem dL_wholeDigit_15 : decode cL_wholeDigit 15 = .ok (.iconst 1, 1) := by decide +kernel
theorem dL_wholeDigit_16 : decode cL_wholeDigit 16 = .ok (.ireturn, 1) := by decide +kernel
theorem dL_wholeDigit_17 : decode cL_wholeDigit 17 = .ok (.iconst 0, 1) := by decide +kernel
theorem dL_wholeDigit_18 : decode cL_wholeDigit 18 = .ok (.ireturn, 1) := by decide +kernel
theorem dL_wholeDigitByPowers_0 : decode cL_wholeDigitByPowers 0 = .ok (.aload_n 3, 1) := by decide +kernel
theorem dL_wholeDigitByPowers_1 : decode cL_wholeDigitByPowers 1 = .ok (.iconst 0, 1) := by decide +kernel
theorem dL_wholeDigitByPowers_2 : decode cL_wholeDigitByPowers 2 = .ok (.aload_n 0, 1) := by decide +kernel
theorem dL_wholeDigitByPowers_3 : decode cL_wholeDigitByPowers 3 = .ok (.iload_n 1, 1) := by decide +kernel
theorem dL_wholeDigitByPowers_4 : decode cL_wholeDigitByPowers 4 = .ok (.iload_n 2, 1) := by decide +kernel
theorem dL_wholeDigitByPowers_5 : decode cL_wholeDigitByPowers 5 = .ok (.invokevirtual 73, 3) := by decide +kernel
theorem dL_wholeDigitByPowers_8 : decode cL_wholeDigitByPowers 8 = .ok (.i2l, 1) := by decide +kernel
theorem dL_wholeDigitByPowers_9 : decode cL_wholeDigitByPowers 9 = .ok (.lastore, 1) := by decide +kernel
theorem dL_wholeDigitByPowers_10 : decode cL_wholeDigitByPowers 10 = .ok (.goto 7, 3) := by decide +kernel
theorem dL_wholeDigitByPowers_13 : decode cL_wholeDigitByPowers 13 = .ok (.astore 4, 2) := by decide +kernel
theorem dL_wholeDigitByPowers_15 : decode cL_wholeDigitByPowers 15 = .ok (.iconst 1, 1) := by decide +kernel
theorem dL_wholeDigitByPowers_16 : decode cL_wholeDigitByPowers 16 = .ok (.ireturn, 1) := by decide +kernel
theorem dL_wholeDigitByPowers_17 : decode cL_wholeDigitByPowers 17 = .ok (.iconst 0, 1) := by decide +kernel
theorem dL_wholeDigitByPowers_18 : decode cL_wholeDigitByPowers 18 = .ok (.ireturn, 1) := by decide +kernel
theorem dL_digitSum_0 : decode cL_digitSum 0 = .ok (.aload_n 2, 1) := by decide +kernel
theorem dL_digitSum_1 : decode cL_digitSum 1 = .ok (.iconst 0, 1) := by decide +kernel
theorem dL_digitSum_2 : decode cL_digitSum 2 = .ok (.aload_n 0, 1) := by decide +kernel
theorem dL_digitSum_3 : decode cL_digitSum 3 = .ok (.iload_n 1, 1) := by decide +kernel
theorem dL_digitSum_4 : decode cL_digitSum 4 = .ok (.invokevirtual 76, 3) := by decide +kernel
theorem dL_digitSum_7 : decode cL_digitSum 7 = .ok (.i2l, 1) := by decide +kernel
theorem dL_digitSum_8 : decode cL_digitSum 8 = .ok (.lastore, 1) := by decide +kernel
theorem dL_digitSum_9 : decode cL_digitSum 9 = .ok (.goto 6, 3) := by decide +kernel
theorem dL_digitSum_12 : decode cL_digitSum 12 = .ok (.astore_n 3, 1) := by decide +kernel
theorem dL_digitSum_13 : decode cL_digitSum 13 = .ok (.iconst 1, 1) := by decide +kernel
theorem dL_digitSum_14 : decode cL_digitSum 14 = .ok (.ireturn, 1) := by decide +kernel
theorem dL_digitSum_15 : decode cL_digitSum 15 = .ok (.iconst 0, 1) := by decide +kernel
theorem dL_digitSum_16 : decode cL_digitSum 16 = .ok (.ireturn, 1) := by decide +kernel
theorem dL_leftByDigits_0 : decode cL_leftByDigits 0 = .ok (.aload_n 2, 1) := by decide +kernel
theorem dL_leftByDigits_1 : decode cL_leftByDigits 1 = .ok (.iconst 0, 1) := by decide +kernel
theorem dL_leftByDigits_2 : decode cL_leftByDigits 2 = .ok (.aload_n 0, 1) := by decide +kernel
theorem dL_leftByDigits_3 : decode cL_leftByDigits 3 = .ok (.iload_n 1, 1) := by decide +kernel
theorem dL_leftByDigits_4 : decode cL_leftByDigits 4 = .ok (.invokevirtual 79, 3) := by decide +kernel
theorem dL_leftByDigits_7 : decode cL_leftByDigits 7 = .ok (.i2l, 1) := by decide +kernel
theorem dL_leftByDigits_8 : decode cL_leftByDigits 8 = .ok (.lastore, 1) := by decide +kernel
theorem dL_leftByDigits_9 : decode cL_leftByDigits 9 = .ok (.goto 6, 3) := by decide +kernel
theorem dL_leftByDigits_12 : decode cL_leftByDigits 12 = .ok (.astore_n 3, 1) := by decide +kernel
theorem dL_leftByDigits_13 : decode cL_leftByDigits 13 = .ok (.iconst 1, 1) := by decide +kernel
theorem dL_leftByDigits_14 : decode cL_leftByDigits 14 = .ok (.ireturn, 1) := by decide +kernel
theorem dL_leftByDigits_15 : decode cL_leftByDigits 15 = .ok (.iconst 0, 1) := by decide +kernel
theorem dL_leftByDigits_16 : decode cL_leftByDigits 16 = .ok (.ireturn, 1) := by decide +kernel
theorem dL_leftByDividing_0 : decode cL_leftByDividing 0 = .ok (.aload_n 2, 1) := by decide +kernel
theorem dL_leftByDividing_1 : decode cL_leftByDividing 1 = .ok (.iconst 0, 1) := by decide +kernel
theorem dL_leftByDividing_2 : decode cL_leftByDividing 2 = .ok (.aload_n 0, 1) := by decide +kernel
theorem dL_leftByDividing_3 : decode cL_leftByDividing 3 = .ok (.iload_n 1, 1) := by decide +kernel
theorem dL_leftByDividing_4 : decode cL_leftByDividing 4 = .ok (.invokevirtual 82, 3) := by decide +kernel
theorem dL_leftByDividing_7 : decode cL_leftByDividing 7 = .ok (.i2l, 1) := by decide +kernel
theorem dL_leftByDividing_8 : decode cL_leftByDividing 8 = .ok (.lastore, 1) := by decide +kernel
theorem dL_leftByDividing_9 : decode cL_leftByDividing 9 = .ok (.goto 6, 3) := by decide +kernel
theorem dL_leftByDividing_12 : decode cL_leftByDividing 12 = .ok (.astore_n 3, 1) := by decide +kernel
theorem dL_leftByDividing_13 : decode cL_leftByDividing 13 = .ok (.iconst 1, 1) := by decide +kernel
theorem dL_leftByDividing_14 : decode cL_leftByDividing 14 = .ok (.ireturn, 1) := by decide +kernel
theorem dL_leftByDividing_15 : decode cL_leftByDividing 15 = .ok (.iconst 0, 1) := by decide +kernel
theorem dL_leftByDividing_16 : decode cL_leftByDividing 16 = .ok (.ireturn, 1) := by decide +kernel
theorem dL_headLength_0 : decode cL_headLength 0 = .ok (.aload_n 2, 1) := by decide +kernel
theorem dL_headLength_1 : decode cL_headLength 1 = .ok (.iconst 0, 1) := by decide +kernel
theorem dL_headLength_2 : decode cL_headLength 2 = .ok (.aload_n 0, 1) := by decide +kernel
theorem dL_headLength_3 : decode cL_headLength 3 = .ok (.iload_n 1, 1) := by decide +kernel
theorem dL_headLength_4 : decode cL_headLength 4 = .ok (.invokevirtual 85, 3) := by decide +kernel
theorem dL_headLength_7 : decode cL_headLength 7 = .ok (.i2l, 1) := by decide +kernel
theorem dL_headLength_8 : decode cL_headLength 8 = .ok (.lastore, 1) := by decide +kernel
theorem dL_headLength_9 : decode cL_headLength 9 = .ok (.goto 6, 3) := by decide +kernel
theorem dL_headLength_12 : decode cL_headLength 12 = .ok (.astore_n 3, 1) := by decide +kernel
theorem dL_headLength_13 : decode cL_headLength 13 = .ok (.iconst 1, 1) := by decide +kernel
theorem dL_headLength_14 : decode cL_headLength 14 = .ok (.ireturn, 1) := by decide +kernel
theorem dL_headLength_15 : decode cL_headLength 15 = .ok (.iconst 0, 1) := by decide +kernel
theorem dL_headLength_16 : decode cL_headLength 16 = .ok (.ireturn, 1) := by decide +kernel
theorem dL_periodLength_0 : decode cL_periodLength 0 = .ok (.aload_n 2, 1) := by decide +kernel
theorem dL_periodLength_1 : decode cL_periodLength 1 = .ok (.iconst 0, 1) := by decide +kernel
theorem dL_periodLength_2 : decode cL_periodLength 2 = .ok (.aload_n 0, 1) := by decide +kernel
theorem dL_periodLength_3 : decode cL_periodLength 3 = .ok (.iload_n 1, 1) := by decide +kernel
theorem dL_periodLength_4 : decode cL_periodLength 4 = .ok (.invokevirtual 88, 3) := by decide +kernel
theorem dL_periodLength_7 : decode cL_periodLength 7 = .ok (.i2l, 1) := by decide +kernel
theorem dL_periodLength_8 : decode cL_periodLength 8 = .ok (.lastore, 1) := by decide +kernel
theorem dL_periodLength_9 : decode cL_periodLength 9 = .ok (.goto 6, 3) := by decide +kernel
theorem dL_periodLength_12 : decode cL_periodLength 12 = .ok (.astore_n 3, 1) := by decide +kernel
theorem dL_periodLength_13 : decode cL_periodLength 13 = .ok (.iconst 1, 1) := by decide +kernel
theorem dL_periodLength_14 : decode cL_periodLength 14 = .ok (.ireturn, 1) := by decide +kernel
theorem dL_periodLength_15 : decode cL_periodLength 15 = .ok (.iconst 0, 1) := by decide +kernel
theorem dL_periodLength_16 : decode cL_periodLength 16 = .ok (.ireturn, 1) := by decide +kernel
theorem dL_periodByOrder_0 : decode cL_periodByOrder 0 = .ok (.aload_n 2, 1) := by decide +kernel
theorem dL_periodByOrder_1 : decode cL_periodByOrder 1 = .ok (.iconst 0, 1) := by decide +kernel
theorem dL_periodByOrder_2 : decode cL_periodByOrder 2 = .ok (.aload_n 0, 1) := by decide +kernel
theorem dL_periodByOrder_3 : decode cL_periodByOrder 3 = .ok (.iload_n 1, 1) := by decide +kernel
theorem dL_periodByOrder_4 : decode cL_periodByOrder 4 = .ok (.invokevirtual 91, 3) := by decide +kernel
theorem dL_periodByOrder_7 : decode cL_periodByOrder 7 = .ok (.i2l, 1) := by decide +kernel
theorem dL_periodByOrder_8 : decode cL_periodByOrder 8 = .ok (.lastore, 1) := by decide +kernel
theorem dL_periodByOrder_9 : decode cL_periodByOrder 9 = .ok (.goto 6, 3) := by decide +kernel
theorem dL_periodByOrder_12 : decode cL_periodByOrder 12 = .ok (.astore_n 3, 1) := by decide +kernel
theorem dL_periodByOrder_13 : decode cL_periodByOrder 13 = .ok (.iconst 1, 1) := by decide +kernel
theorem dL_periodByOrder_14 : decode cL_periodByOrder 14 = .ok (.ireturn, 1) := by decide +kernel
theorem dL_periodByOrder_15 : decode cL_periodByOrder 15 = .ok (.iconst 0, 1) := by decide +kernel
theorem dL_periodByOrder_16 : decode cL_periodByOrder 16 = .ok (.ireturn, 1) := by decide +kernel
theorem dL_digitBehind_0 : decode cL_digitBehind 0 = .ok (.aload_n 3, 1) := by decide +kernel
theorem dL_digitBehind_1 : decode cL_digitBehind 1 = .ok (.iconst 0, 1) := by decide +kernel
theorem dL_digitBehind_2 : decode cL_digitBehind 2 = .ok (.aload_n 0, 1) := by decide +kernel
theorem dL_digitBehind_3 : decode cL_digitBehind 3 = .ok (.iload_n 1, 1) := by decide +kernel
theorem dL_digitBehind_4 : decode cL_digitBehind 4 = .ok (.iload_n 2, 1) := by decide +kernel
theorem dL_digitBehind_5 : decode cL_digitBehind 5 = .ok (.invokevirtual 94, 3) := by decide +kernel
theorem dL_digitBehind_8 : decode cL_digitBehind 8 = .ok (.i2l, 1) := by decide +kernel
theorem dL_digitBehind_9 : decode cL_digitBehind 9 = .ok (.lastore, 1) := by decide +kernel
theorem dL_digitBehind_10 : decode cL_digitBehind 10 = .ok (.goto 11, 3) := by decide +kernel
theorem dL_digitBehind_13 : decode cL_digitBehind 13 = .ok (.astore 4, 2) := by decide +kernel
theorem dL_digitBehind_15 : decode cL_digitBehind 15 = .ok (.iconst 1, 1) := by decide +kernel
theorem dL_digitBehind_16 : decode cL_digitBehind 16 = .ok (.ireturn, 1) := by decide +kernel
theorem dL_digitBehind_17 : decode cL_digitBehind 17 = .ok (.astore 4, 2) := by decide +kernel
theorem dL_digitBehind_19 : decode cL_digitBehind 19 = .ok (.iconst 2, 1) := by decide +kernel
theorem dL_digitBehind_20 : decode cL_digitBehind 20 = .ok (.ireturn, 1) := by decide +kernel
theorem dL_digitBehind_21 : decode cL_digitBehind 21 = .ok (.iconst 0, 1) := by decide +kernel
theorem dL_digitBehind_22 : decode cL_digitBehind 22 = .ok (.ireturn, 1) := by decide +kernel
theorem dL_shortestBase_0 : decode cL_shortestBase 0 = .ok (.aload_n 2, 1) := by decide +kernel
theorem dL_shortestBase_1 : decode cL_shortestBase 1 = .ok (.iconst 0, 1) := by decide +kernel
theorem dL_shortestBase_2 : decode cL_shortestBase 2 = .ok (.aload_n 0, 1) := by decide +kernel
theorem dL_shortestBase_3 : decode cL_shortestBase 3 = .ok (.iload_n 1, 1) := by decide +kernel
theorem dL_shortestBase_4 : decode cL_shortestBase 4 = .ok (.invokevirtual 97, 3) := by decide +kernel
theorem dL_shortestBase_7 : decode cL_shortestBase 7 = .ok (.i2l, 1) := by decide +kernel
theorem dL_shortestBase_8 : decode cL_shortestBase 8 = .ok (.lastore, 1) := by decide +kernel
theorem dL_shortestBase_9 : decode cL_shortestBase 9 = .ok (.goto 6, 3) := by decide +kernel
theorem dL_shortestBase_12 : decode cL_shortestBase 12 = .ok (.astore_n 3, 1) := by decide +kernel
theorem dL_shortestBase_13 : decode cL_shortestBase 13 = .ok (.iconst 1, 1) := by decide +kernel
theorem dL_shortestBase_14 : decode cL_shortestBase 14 = .ok (.ireturn, 1) := by decide +kernel
theorem dL_shortestBase_15 : decode cL_shortestBase 15 = .ok (.iconst 0, 1) := by decide +kernel
theorem dL_shortestBase_16 : decode cL_shortestBase 16 = .ok (.ireturn, 1) := by decide +kernel
theorem dL_writtenLength_0 : decode cL_writtenLength 0 = .ok (.aload_n 2, 1) := by decide +kernel
theorem dL_writtenLength_1 : decode cL_writtenLength 1 = .ok (.iconst 0, 1) := by decide +kernel
theorem dL_writtenLength_2 : decode cL_writtenLength 2 = .ok (.aload_n 0, 1) := by decide +kernel
theorem dL_writtenLength_3 : decode cL_writtenLength 3 = .ok (.iload_n 1, 1) := by decide +kernel
theorem dL_writtenLength_4 : decode cL_writtenLength 4 = .ok (.invokevirtual 100, 3) := by decide +kernel
theorem dL_writtenLength_7 : decode cL_writtenLength 7 = .ok (.i2l, 1) := by decide +kernel
theorem dL_writtenLength_8 : decode cL_writtenLength 8 = .ok (.lastore, 1) := by decide +kernel
theorem dL_writtenLength_9 : decode cL_writtenLength 9 = .ok (.goto 6, 3) := by decide +kernel
theorem dL_writtenLength_12 : decode cL_writtenLength 12 = .ok (.astore_n 3, 1) := by decide +kernel
theorem dL_writtenLength_13 : decode cL_writtenLength 13 = .ok (.iconst 1, 1) := by decide +kernel
theorem dL_writtenLength_14 : decode cL_writtenLength 14 = .ok (.ireturn, 1) := by decide +kernel
theorem dL_writtenLength_15 : decode cL_writtenLength 15 = .ok (.iconst 0, 1) := by decide +kernel
theorem dL_writtenLength_16 : decode cL_writtenLength 16 = .ok (.ireturn, 1) := by decide +kernel
theorem dL_writtenAt_0 : decode cL_writtenAt 0 = .ok (.aload_n 3, 1) := by decide +kernel
theorem dL_writtenAt_1 : decode cL_writtenAt 1 = .ok (.iconst 0, 1) := by decide +kernel
theorem dL_writtenAt_2 : decode cL_writtenAt 2 = .ok (.aload_n 0, 1) := by decide +kernel
theorem dL_writtenAt_3 : decode cL_writtenAt 3 = .ok (.iload_n 1, 1) := by decide +kernel
theorem dL_writtenAt_4 : decode cL_writtenAt 4 = .ok (.iload_n 2, 1) := by decide +kernel
theorem dL_writtenAt_5 : decode cL_writtenAt 5 = .ok (.invokevirtual 103, 3) := by decide +kernel
theorem dL_writtenAt_8 : decode cL_writtenAt 8 = .ok (.i2l, 1) := by decide +kernel
theorem dL_writtenAt_9 : decode cL_writtenAt 9 = .ok (.lastore, 1) := by decide +kernel
theorem dL_writtenAt_10 : decode cL_writtenAt 10 = .ok (.goto 7, 3) := by decide +kernel
theorem dL_writtenAt_13 : decode cL_writtenAt 13 = .ok (.astore 4, 2) := by decide +kernel
theorem dL_writtenAt_15 : decode cL_writtenAt 15 = .ok (.iconst 1, 1) := by decide +kernel
theorem dL_writtenAt_16 : decode cL_writtenAt 16 = .ok (.ireturn, 1) := by decide +kernel
theorem dL_writtenAt_17 : decode cL_writtenAt 17 = .ok (.iconst 0, 1) := by decide +kernel
theorem dL_writtenAt_18 : decode cL_writtenAt 18 = .ok (.ireturn, 1) := by decide +kernel
theorem dL_carries_0 : decode cL_carries 0 = .ok (.aload_n 3, 1) := by decide +kernel
theorem dL_carries_1 : decode cL_carries 1 = .ok (.iconst 0, 1) := by decide +kernel
theorem dL_carries_2 : decode cL_carries 2 = .ok (.aload_n 0, 1) := by decide +kernel
theorem dL_carries_3 : decode cL_carries 3 = .ok (.iload_n 1, 1) := by decide +kernel
theorem dL_carries_4 : decode cL_carries 4 = .ok (.iload_n 2, 1) := by decide +kernel
theorem dL_carries_5 : decode cL_carries 5 = .ok (.invokevirtual 106, 3) := by decide +kernel
theorem dL_carries_8 : decode cL_carries 8 = .ok (.i2l, 1) := by decide +kernel
theorem dL_carries_9 : decode cL_carries 9 = .ok (.lastore, 1) := by decide +kernel
theorem dL_carries_10 : decode cL_carries 10 = .ok (.goto 7, 3) := by decide +kernel
theorem dL_carries_13 : decode cL_carries 13 = .ok (.astore 4, 2) := by decide +kernel
theorem dL_carries_15 : decode cL_carries 15 = .ok (.iconst 1, 1) := by decide +kernel
theorem dL_carries_16 : decode cL_carries 16 = .ok (.ireturn, 1) := by decide +kernel
theorem dL_carries_17 : decode cL_carries 17 = .ok (.iconst 0, 1) := by decide +kernel
theorem dL_carries_18 : decode cL_carries 18 = .ok (.ireturn, 1) := by decide +kernel
theorem dL_longestChain_0 : decode cL_longestChain 0 = .ok (.aload_n 3, 1) := by decide +kernel
theorem dL_longestChain_1 : decode cL_longestChain 1 = .ok (.iconst 0, 1) := by decide +kernel
theorem dL_longestChain_2 : decode cL_longestChain 2 = .ok (.aload_n 0, 1) := by decide +kernel
theorem dL_longestChain_3 : decode cL_longestChain 3 = .ok (.iload_n 1, 1) := by decide +kernel
theorem dL_longestChain_4 : decode cL_longestChain 4 = .ok (.iload_n 2, 1) := by decide +kernel
theorem dL_longestChain_5 : decode cL_longestChain 5 = .ok (.invokevirtual 109, 3) := by decide +kernel
theorem dL_longestChain_8 : decode cL_longestChain 8 = .ok (.i2l, 1) := by decide +kernel
theorem dL_longestChain_9 : decode cL_longestChain 9 = .ok (.lastore, 1) := by decide +kernel
theorem dL_longestChain_10 : decode cL_longestChain 10 = .ok (.goto 7, 3) := by decide +kernel
theorem dL_longestChain_13 : decode cL_longestChain 13 = .ok (.astore 4, 2) := by decide +kernel
theorem dL_longestChain_15 : decode cL_longestChain 15 = .ok (.iconst 1, 1) := by decide +kernel
theorem dL_longestChain_16 : decode cL_longestChain 16 = .ok (.ireturn, 1) := by decide +kernel
theorem dL_longestChain_17 : decode cL_longestChain 17 = .ok (.iconst 0, 1) := by decide +kernel
theorem dL_longestChain_18 : decode cL_longestChain 18 = .ok (.ireturn, 1) := by decide +kernel
theorem dL_sumDigit_0 : decode cL_sumDigit 0 = .ok (.aload 4, 2) := by decide +kernel
theorem dL_sumDigit_2 : decode cL_sumDigit 2 = .ok (.iconst 0, 1) := by decide +kernel
theorem dL_sumDigit_3 : decode cL_sumDigit 3 = .ok (.aload_n 0, 1) := by decide +kernel
theorem dL_sumDigit_4 : decode cL_sumDigit 4 = .ok (.iload_n 1, 1) := by decide +kernel
theorem dL_sumDigit_5 : decode cL_sumDigit 5 = .ok (.iload_n 2, 1) := by decide +kernel
theorem dL_sumDigit_6 : decode cL_sumDigit 6 = .ok (.iload_n 3, 1) := by decide +kernel
theorem dL_sumDigit_7 : decode cL_sumDigit 7 = .ok (.invokevirtual 112, 3) := by decide +kernel
theorem dL_sumDigit_10 : decode cL_sumDigit 10 = .ok (.i2l, 1) := by decide +kernel
theorem dL_sumDigit_11 : decode cL_sumDigit 11 = .ok (.lastore, 1) := by decide +kernel
theorem dL_sumDigit_12 : decode cL_sumDigit 12 = .ok (.goto 7, 3) := by decide +kernel
theorem dL_sumDigit_15 : decode cL_sumDigit 15 = .ok (.astore 5, 2) := by decide +kernel
theorem dL_sumDigit_17 : decode cL_sumDigit 17 = .ok (.iconst 1, 1) := by decide +kernel
theorem dL_sumDigit_18 : decode cL_sumDigit 18 = .ok (.ireturn, 1) := by decide +kernel
theorem dL_sumDigit_19 : decode cL_sumDigit 19 = .ok (.iconst 0, 1) := by decide +kernel
theorem dL_sumDigit_20 : decode cL_sumDigit 20 = .ok (.ireturn, 1) := by decide +kernel
theorem dL_sumByColumns_0 : decode cL_sumByColumns 0 = .ok (.aload_n 3, 1) := by decide +kernel
theorem dL_sumByColumns_1 : decode cL_sumByColumns 1 = .ok (.iconst 0, 1) := by decide +kernel
theorem dL_sumByColumns_2 : decode cL_sumByColumns 2 = .ok (.aload_n 0, 1) := by decide +kernel
theorem dL_sumByColumns_3 : decode cL_sumByColumns 3 = .ok (.iload_n 1, 1) := by decide +kernel
theorem dL_sumByColumns_4 : decode cL_sumByColumns 4 = .ok (.iload_n 2, 1) := by decide +kernel
theorem dL_sumByColumns_5 : decode cL_sumByColumns 5 = .ok (.invokevirtual 115, 3) := by decide +kernel
theorem dL_sumByColumns_8 : decode cL_sumByColumns 8 = .ok (.lastore, 1) := by decide +kernel
theorem dL_sumByColumns_9 : decode cL_sumByColumns 9 = .ok (.goto 7, 3) := by decide +kernel
theorem dL_sumByColumns_12 : decode cL_sumByColumns 12 = .ok (.astore 4, 2) := by decide +kernel
theorem dL_sumByColumns_14 : decode cL_sumByColumns 14 = .ok (.iconst 1, 1) := by decide +kernel
theorem dL_sumByColumns_15 : decode cL_sumByColumns 15 = .ok (.ireturn, 1) := by decide +kernel
theorem dL_sumByColumns_16 : decode cL_sumByColumns 16 = .ok (.iconst 0, 1) := by decide +kernel
theorem dL_sumByColumns_17 : decode cL_sumByColumns 17 = .ok (.ireturn, 1) := by decide +kernel
theorem dL_readIn_0 : decode cL_readIn 0 = .ok (.aload_n 3, 1) := by decide +kernel
theorem dL_readIn_1 : decode cL_readIn 1 = .ok (.iconst 0, 1) := by decide +kernel
theorem dL_readIn_2 : decode cL_readIn 2 = .ok (.aload_n 0, 1) := by decide +kernel
theorem dL_readIn_3 : decode cL_readIn 3 = .ok (.iload_n 1, 1) := by decide +kernel
theorem dL_readIn_4 : decode cL_readIn 4 = .ok (.iload_n 2, 1) := by decide +kernel
theorem dL_readIn_5 : decode cL_readIn 5 = .ok (.invokevirtual 119, 3) := by decide +kernel
theorem dL_readIn_8 : decode cL_readIn 8 = .ok (.lastore, 1) := by decide +kernel
theorem dL_readIn_9 : decode cL_readIn 9 = .ok (.goto 11, 3) := by decide +kernel
theorem dL_readIn_12 : decode cL_readIn 12 = .ok (.astore 4, 2) := by decide +kernel
theorem dL_readIn_14 : decode cL_readIn 14 = .ok (.iconst 1, 1) := by decide +kernel
theorem dL_readIn_15 : decode cL_readIn 15 = .ok (.ireturn, 1) := by decide +kernel
theorem dL_readIn_16 : decode cL_readIn 16 = .ok (.astore 4, 2) := by decide +kernel
theorem dL_readIn_18 : decode cL_readIn 18 = .ok (.iconst 2, 1) := by decide +kernel
theorem dL_readIn_19 : decode cL_readIn 19 = .ok (.ireturn, 1) := by decide +kernel
theorem dL_readIn_20 : decode cL_readIn 20 = .ok (.iconst 0, 1) := by decide +kernel
theorem dL_readIn_21 : decode cL_readIn 21 = .ok (.ireturn, 1) := by decide +kernel
theorem dL_whyNoSum_0 : decode cL_whyNoSum 0 = .ok (.aload_n 3, 1) := by decide +kernel
theorem dL_whyNoSum_1 : decode cL_whyNoSum 1 = .ok (.iconst 0, 1) := by decide +kernel
theorem dL_whyNoSum_2 : decode cL_whyNoSum 2 = .ok (.aload_n 0, 1) := by decide +kernel
theorem dL_whyNoSum_3 : decode cL_whyNoSum 3 = .ok (.iload_n 1, 1) := by decide +kernel
theorem dL_whyNoSum_4 : decode cL_whyNoSum 4 = .ok (.iload_n 2, 1) := by decide +kernel
theorem dL_whyNoSum_5 : decode cL_whyNoSum 5 = .ok (.invokevirtual 122, 3) := by decide +kernel
theorem dL_whyNoSum_8 : decode cL_whyNoSum 8 = .ok (.i2l, 1) := by decide +kernel
theorem dL_whyNoSum_9 : decode cL_whyNoSum 9 = .ok (.lastore, 1) := by decide +kernel
theorem dL_whyNoSum_10 : decode cL_whyNoSum 10 = .ok (.goto 7, 3) := by decide +kernel
theorem dL_whyNoSum_13 : decode cL_whyNoSum 13 = .ok (.astore 4, 2) := by decide +kernel
theorem dL_whyNoSum_15 : decode cL_whyNoSum 15 = .ok (.iconst 1, 1) := by decide +kernel
theorem dL_whyNoSum_16 : decode cL_whyNoSum 16 = .ok (.ireturn, 1) := by decide +kernel
theorem dL_whyNoSum_17 : decode cL_whyNoSum 17 = .ok (.iconst 0, 1) := by decide +kernel
theorem dL_whyNoSum_18 : decode cL_whyNoSum 18 = .ok (.ireturn, 1) := by decide +kernel
theorem dL_periodOfSum_0 : decode cL_periodOfSum 0 = .ok (.aload_n 3, 1) := by decide +kernel
theorem dL_periodOfSum_1 : decode cL_periodOfSum 1 = .ok (.iconst 0, 1) := by decide +kernel
theorem dL_periodOfSum_2 : decode cL_periodOfSum 2 = .ok (.aload_n 0, 1) := by decide +kernel
theorem dL_periodOfSum_3 : decode cL_periodOfSum 3 = .ok (.iload_n 1, 1) := by decide +kernel
theorem dL_periodOfSum_4 : decode cL_periodOfSum 4 = .ok (.iload_n 2, 1) := by decide +kernel
theorem dL_periodOfSum_5 : decode cL_periodOfSum 5 = .ok (.invokevirtual 125, 3) := by decide +kernel
theorem dL_periodOfSum_8 : decode cL_periodOfSum 8 = .ok (.i2l, 1) := by decide +kernel
theorem dL_periodOfSum_9 : decode cL_periodOfSum 9 = .ok (.lastore, 1) := by decide +kernel
theorem dL_periodOfSum_10 : decode cL_periodOfSum 10 = .ok (.goto 7, 3) := by decide +kernel
theorem dL_periodOfSum_13 : decode cL_periodOfSum 13 = .ok (.astore 4, 2) := by decide +kernel
theorem dL_periodOfSum_15 : decode cL_periodOfSum 15 = .ok (.iconst 1, 1) := by decide +kernel
theorem dL_periodOfSum_16 : decode cL_periodOfSum 16 = .ok (.ireturn, 1) := by decide +kernel
theorem dL_periodOfSum_17 : decode cL_periodOfSum 17 = .ok (.iconst 0, 1) := by decide +kernel
theorem dL_periodOfSum_18 : decode cL_periodOfSum 18 = .ok (.ireturn, 1) := by decide +kernel
theorem dL_shareOf_0 : decode cL_shareOf 0 = .ok (.aload_n 2, 1) := by decide +kernel
theorem dL_shareOf_1 : decode cL_shareOf 1 = .ok (.iconst 0, 1) := by decide +kernel
theorem dL_shareOf_2 : decode cL_shareOf 2 = .ok (.aload_n 0, 1) := by decide +kernel
theorem dL_shareOf_3 : decode cL_shareOf 3 = .ok (.iload_n 1, 1) := by decide +kernel
theorem dL_shareOf_4 : decode cL_shareOf 4 = .ok (.invokevirtual 128, 3) := by decide +kernel
theorem dL_shareOf_7 : decode cL_shareOf 7 = .ok (.dastore, 1) := by decide +kernel
theorem dL_shareOf_8 : decode cL_shareOf 8 = .ok (.goto 6, 3) := by decide +kernel
theorem dL_shareOf_11 : decode cL_shareOf 11 = .ok (.astore_n 3, 1) := by decide +kernel
theorem dL_shareOf_12 : decode cL_shareOf 12 = .ok (.iconst 1, 1) := by decide +kernel
theorem dL_shareOf_13 : decode cL_shareOf 13 = .ok (.ireturn, 1) := by decide +kernel
theorem dL_shareOf_14 : decode cL_shareOf 14 = .ok (.iconst 0, 1) := by decide +kernel
theorem dL_shareOf_15 : decode cL_shareOf 15 = .ok (.ireturn, 1) := by decide +kernel
theorem dL_law_0 : decode cL_law 0 = .ok (.new 8, 3) := by decide +kernel
theorem dL_law_3 : decode cL_law 3 = .ok (.dup, 1) := by decide +kernel
theorem dL_law_4 : decode cL_law 4 = .ok (.invokespecial 132, 3) := by decide +kernel
theorem dL_law_7 : decode cL_law 7 = .ok (.astore_n 1, 1) := by decide +kernel
theorem dL_law_8 : decode cL_law 8 = .ok (.new 133, 3) := by decide +kernel
theorem dL_law_11 : decode cL_law 11 = .ok (.dup, 1) := by decide +kernel
theorem dL_law_12 : decode cL_law 12 = .ok (.invokespecial 135, 3) := by decide +kernel
theorem dL_law_15 : decode cL_law 15 = .ok (.astore_n 2, 1) := by decide +kernel
theorem dL_law_16 : decode cL_law 16 = .ok (.iconst 1, 1) := by decide +kernel
theorem dL_law_17 : decode cL_law 17 = .ok (.newarray .long, 2) := by decide +kernel
theorem dL_law_19 : decode cL_law 19 = .ok (.astore_n 3, 1) := by decide +kernel
theorem dL_law_20 : decode cL_law 20 = .ok (.iconst 1, 1) := by decide +kernel
theorem dL_law_21 : decode cL_law 21 = .ok (.newarray .double, 2) := by decide +kernel
theorem dL_law_23 : decode cL_law 23 = .ok (.astore 4, 2) := by decide +kernel
theorem dL_law_25 : decode cL_law 25 = .ok (.iconst 0, 1) := by decide +kernel
theorem dL_law_26 : decode cL_law 26 = .ok (.istore 5, 2) := by decide +kernel
theorem dL_law_28 : decode cL_law 28 = .ok (.iload 5, 2) := by decide +kernel
theorem dL_law_30 : decode cL_law 30 = .ok (.aload_n 0, 1) := by decide +kernel
theorem dL_law_31 : decode cL_law 31 = .ok (.arraylength, 1) := by decide +kernel
theorem dL_law_32 : decode cL_law 32 = .ok (.iconst 4, 1) := by decide +kernel
theorem dL_law_33 : decode cL_law 33 = .ok (.isub, 1) := by decide +kernel
theorem dL_law_34 : decode cL_law 34 = .ok (.if_icmp .gt 2588, 3) := by decide +kernel
theorem dL_law_37 : decode cL_law 37 = .ok (.aload_n 0, 1) := by decide +kernel
theorem dL_law_38 : decode cL_law 38 = .ok (.iload 5, 2) := by decide +kernel
theorem dL_law_40 : decode cL_law 40 = .ok (.iaload, 1) := by decide +kernel
theorem dL_law_41 : decode cL_law 41 = .ok (.bipush 63, 2) := by decide +kernel
theorem dL_law_43 : decode cL_law 43 = .ok (.iand, 1) := by decide +kernel
theorem dL_law_44 : decode cL_law 44 = .ok (.tableswitch 2572 0 44 #[196, 252, 332, 400, 468, 536, 616, 672, 685, 698, 742, 755, 799, 843, 887, 900, 944, 957, 970, 1026, 1082, 1138, 1206, 1219, 1275, 1343, 1411, 1467, 1523, 1579, 1635, 1691, 1747, 1815, 1871, 1927, 1995, 2063, 2131, 2211, 2278, 2345, 2413, 2481, 2558], 196) := by decide +kernel
theorem dL_law_240 : decode cL_law 240 = .ok (.aload_n 1, 1) := by decide +kernel
theorem dL_law_241 : decode cL_law 241 = .ok (.aload_n 0, 1) := by decide +kernel
theorem dL_law_242 : decode cL_law 242 = .ok (.iload 5, 2) := by decide +kernel
theorem dL_law_244 : decode cL_law 244 = .ok (.iconst 1, 1) := by decide +kernel
theorem dL_law_245 : decode cL_law 245 = .ok (.iadd, 1) := by decide +kernel
theorem dL_law_246 : decode cL_law 246 = .ok (.iaload, 1) := by decide +kernel
theorem dL_law_247 : decode cL_law 247 = .ok (.aload_n 3, 1) := by decide +kernel
theorem dL_law_248 : decode cL_law 248 = .ok (.invokestatic 136, 3) := by decide +kernel
theorem dL_law_251 : decode cL_law 251 = .ok (.istore 6, 2) := by decide +kernel
theorem dL_law_253 : decode cL_law 253 = .ok (.aload_n 2, 1) := by decide +kernel
theorem dL_law_254 : decode cL_law 254 = .ok (.aload_n 0, 1) := by decide +kernel
theorem dL_law_255 : decode cL_law 255 = .ok (.iload 5, 2) := by decide +kernel
theorem dL_law_257 : decode cL_law 257 = .ok (.iconst 1, 1) := by decide +kernel
theorem dL_law_258 : decode cL_law 258 = .ok (.iadd, 1) := by decide +kernel
theorem dL_law_259 : decode cL_law 259 = .ok (.iaload, 1) := by decide +kernel
theorem dL_law_260 : decode cL_law 260 = .ok (.invokevirtual 141, 3) := by decide +kernel
theorem dL_law_263 : decode cL_law 263 = .ok (.istore 7, 2) := by decide +kernel
theorem dL_law_265 : decode cL_law 265 = .ok (.aload_n 2, 1) := by decide +kernel
theorem dL_law_266 : decode cL_law 266 = .ok (.invokevirtual 142, 3) := by decide +kernel
theorem dL_law_269 : decode cL_law 269 = .ok (.iload 6, 2) := by decide +kernel
theorem dL_law_271 : decode cL_law 271 = .ok (.if_icmp .eq 5, 3) := by decide +kernel
theorem dL_law_274 : decode cL_law 274 = .ok (.iconst 0, 1) := by decide +kernel
theorem dL_law_275 : decode cL_law 275 = .ok (.ireturn, 1) := by decide +kernel
theorem dL_law_276 : decode cL_law 276 = .ok (.iload 6, 2) := by decide +kernel
theorem dL_law_278 : decode cL_law 278 = .ok (.ifCond .ne 15, 3) := by decide +kernel
theorem dL_law_281 : decode cL_law 281 = .ok (.aload_n 3, 1) := by decide +kernel
theorem dL_law_282 : decode cL_law 282 = .ok (.iconst 0, 1) := by decide +kernel
theorem dL_law_283 : decode cL_law 283 = .ok (.laload, 1) := by decide +kernel
theorem dL_law_284 : decode cL_law 284 = .ok (.iload 7, 2) := by decide +kernel
theorem dL_law_286 : decode cL_law 286 = .ok (.i2l, 1) := by decide +kernel
theorem dL_law_287 : decode cL_law 287 = .ok (.lcmp, 1) := by decide +kernel
theorem dL_law_288 : decode cL_law 288 = .ok (.ifCond .eq 5, 3) := by decide +kernel
theorem dL_law_291 : decode cL_law 291 = .ok (.iconst 0, 1) := by decide +kernel
theorem dL_law_292 : decode cL_law 292 = .ok (.ireturn, 1) := by decide +kernel
theorem dL_law_293 : decode cL_law 293 = .ok (.goto 2323, 3) := by decide +kernel
theorem dL_law_296 : decode cL_law 296 = .ok (.aload_n 1, 1) := by decide +kernel
theorem dL_law_297 : decode cL_law 297 = .ok (.aload_n 0, 1) := by decide +kernel
theorem dL_law_298 : decode cL_law 298 = .ok (.iload 5, 2) := by decide +kernel
theorem dL_law_300 : decode cL_law 300 = .ok (.iconst 1, 1) := by decide +kernel
theorem dL_law_301 : decode cL_law 301 = .ok (.iadd, 1) := by decide +kernel
theorem dL_law_302 : decode cL_law 302 = .ok (.iaload, 1) := by decide +kernel
theorem dL_law_303 : decode cL_law 303 = .ok (.aload_n 0, 1) := by decide +kernel
theorem dL_law_304 : decode cL_law 304 = .ok (.iload 5, 2) := by decide +kernel
theorem dL_law_306 : decode cL_law 306 = .ok (.iconst 2, 1) := by decide +kernel
theorem dL_law_307 : decode cL_law 307 = .ok (.iadd, 1) := by decide +kernel
theorem dL_law_308 : decode cL_law 308 = .ok (.iaload, 1) := by decide +kernel
theorem dL_law_309 : decode cL_law 309 = .ok (.aload_n 0, 1) := by decide +kernel
theorem dL_law_310 : decode cL_law 310 = .ok (.iload 5, 2) := by decide +kernel
theorem dL_law_312 : decode cL_law 312 = .ok (.iconst 3, 1) := by decide +kernel
theorem dL_law_313 : decode cL_law 313 = .ok (.iadd, 1) := by decide +kernel
theorem dL_law_314 : decode cL_law 314 = .ok (.iaload, 1) := by decide +kernel
theorem dL_law_315 : decode cL_law 315 = .ok (.aload_n 3, 1) := by decide +kernel
theorem dL_law_316 : decode cL_law 316 = .ok (.invokestatic 145, 3) := by decide +kernel
theorem dL_law_319 : decode cL_law 319 = .ok (.istore 6, 2) := by decide +kernel
theorem dL_law_321 : decode cL_law 321 = .ok (.aload_n 2, 1) := by decide +kernel
theorem dL_law_322 : decode cL_law 322 = .ok (.aload_n 0, 1) := by decide +kernel
theorem dL_law_323 : decode cL_law 323 = .ok (.iload 5, 2) := by decide +kernel
theorem dL_law_325 : decode cL_law 325 = .ok (.iconst 1, 1) := by decide +kernel
theorem dL_law_326 : decode cL_law 326 = .ok (.iadd, 1) := by decide +kernel
theorem dL_law_327 : decode cL_law 327 = .ok (.iaload, 1) := by decide +kernel
theorem dL_law_328 : decode cL_law 328 = .ok (.aload_n 0, 1) := by decide +kernel
theorem dL_law_329 : decode cL_law 329 = .ok (.iload 5, 2) := by decide +kernel
theorem dL_law_331 : decode cL_law 331 = .ok (.iconst 2, 1) := by decide +kernel
theorem dL_law_332 : decode cL_law 332 = .ok (.iadd, 1) := by decide +kernel
theorem dL_law_333 : decode cL_law 333 = .ok (.iaload, 1) := by decide +kernel
theorem dL_law_334 : decode cL_law 334 = .ok (.aload_n 0, 1) := by decide +kernel
theorem dL_law_335 : decode cL_law 335 = .ok (.iload 5, 2) := by decide +kernel
theorem dL_law_337 : decode cL_law 337 = .ok (.iconst 3, 1) := by decide +kernel
theorem dL_law_338 : decode cL_law 338 = .ok (.iadd, 1) := by decide +kernel
theorem dL_law_339 : decode cL_law 339 = .ok (.iaload, 1) := by decide +kernel
theorem dL_law_340 : decode cL_law 340 = .ok (.invokevirtual 148, 3) := by decide +kernel
theorem dL_law_343 : decode cL_law 343 = .ok (.istore 7, 2) := by decide +kernel
theorem dL_law_345 : decode cL_law 345 = .ok (.aload_n 2, 1) := by decide +kernel
theorem dL_law_346 : decode cL_law 346 = .ok (.invokevirtual 142, 3) := by decide +kernel
theorem dL_law_349 : decode cL_law 349 = .ok (.iload 6, 2) := by decide +kernel
theorem dL_law_351 : decode cL_law 351 = .ok (.if_icmp .eq 5, 3) := by decide +kernel
theorem dL_law_354 : decode cL_law 354 = .ok (.iconst 0, 1) := by decide +kernel
theorem dL_law_355 : decode cL_law 355 = .ok (.ireturn, 1) := by decide +kernel
theorem dL_law_356 : decode cL_law 356 = .ok (.iload 6, 2) := by decide +kernel
theorem dL_law_358 : decode cL_law 358 = .ok (.ifCond .ne 15, 3) := by decide +kernel
theorem dL_law_361 : decode cL_law 361 = .ok (.aload_n 3, 1) := by decide +kernel
theorem dL_law_362 : decode cL_law 362 = .ok (.iconst 0, 1) := by decide +kernel
theorem dL_law_363 : decode cL_law 363 = .ok (.laload, 1) := by decide +kernel
theorem dL_law_364 : decode cL_law 364 = .ok (.iload 7, 2) := by decide +kernel
theorem dL_law_366 : decode cL_law 366 = .ok (.i2l, 1) := by decide +kernel
theorem dL_law_367 : decode cL_law 367 = .ok (.lcmp, 1) := by decide +kernel
theorem dL_law_368 : decode cL_law 368 = .ok (.ifCond .eq 5, 3) := by decide +kernel
theorem dL_law_371 : decode cL_law 371 = .ok (.iconst 0, 1) := by decide +kernel
theorem dL_law_372 : decode cL_law 372 = .ok (.ireturn, 1) := by decide +kernel
theorem dL_law_373 : decode cL_law 373 = .ok (.goto 2243, 3) := by decide +kernel
theorem dL_law_376 : decode cL_law 376 = .ok (.aload_n 1, 1) := by decide +kernel
theorem dL_law_377 : decode cL_law 377 = .ok (.aload_n 0, 1) := by decide +kernel
theorem dL_law_378 : decode cL_law 378 = .ok (.iload 5, 2) := by decide +kernel
theorem dL_law_380 : decode cL_law 380 = .ok (.iconst 1, 1) := by decide +kernel
theorem dL_law_381 : decode cL_law 381 = .ok (.iadd, 1) := by decide +kernel
theorem dL_law_382 : decode cL_law 382 = .ok (.iaload, 1) := by decide +kernel
theorem dL_law_383 : decode cL_law 383 = .ok (.aload_n 0, 1) := by decide +kernel
theorem dL_law_384 : decode cL_law 384 = .ok (.iload 5, 2) := by decide +kernel
theorem dL_law_386 : decode cL_law 386 = .ok (.iconst 2, 1) := by decide +kernel
theorem dL_law_387 : decode cL_law 387 = .ok (.iadd, 1) := by decide +kernel
theorem dL_law_388 : decode cL_law 388 = .ok (.iaload, 1) := by decide +kernel
theorem dL_law_389 : decode cL_law 389 = .ok (.aload_n 3, 1) := by decide +kernel
theorem dL_law_390 : decode cL_law 390 = .ok (.invokestatic 149, 3) := by decide +kernel
theorem dL_law_393 : decode cL_law 393 = .ok (.istore 6, 2) := by decide +kernel
theorem dL_law_395 : decode cL_law 395 = .ok (.aload_n 2, 1) := by decide +kernel
theorem dL_law_396 : decode cL_law 396 = .ok (.aload_n 0, 1) := by decide +kernel
theorem dL_law_397 : decode cL_law 397 = .ok (.iload 5, 2) := by decide +kernel
theorem dL_law_399 : decode cL_law 399 = .ok (.iconst 1, 1) := by decide +kernel
theorem dL_law_400 : decode cL_law 400 = .ok (.iadd, 1) := by decide +kernel
theorem dL_law_401 : decode cL_law 401 = .ok (.iaload, 1) := by decide +kernel
theorem dL_law_402 : decode cL_law 402 = .ok (.aload_n 0, 1) := by decide +kernel
theorem dL_law_403 : decode cL_law 403 = .ok (.iload 5, 2) := by decide +kernel
theorem dL_law_405 : decode cL_law 405 = .ok (.iconst 2, 1) := by decide +kernel
theorem dL_law_406 : decode cL_law 406 = .ok (.iadd, 1) := by decide +kernel
theorem dL_law_407 : decode cL_law 407 = .ok (.iaload, 1) := by decide +kernel
theorem dL_law_408 : decode cL_law 408 = .ok (.invokevirtual 152, 3) := by decide +kernel
theorem dL_law_411 : decode cL_law 411 = .ok (.istore 7, 2) := by decide +kernel
theorem dL_law_413 : decode cL_law 413 = .ok (.aload_n 2, 1) := by decide +kernel
theorem dL_law_414 : decode cL_law 414 = .ok (.invokevirtual 142, 3) := by decide +kernel
theorem dL_law_417 : decode cL_law 417 = .ok (.iload 6, 2) := by decide +kernel
theorem dL_law_419 : decode cL_law 419 = .ok (.if_icmp .eq 5, 3) := by decide +kernel
theorem dL_law_422 : decode cL_law 422 = .ok (.iconst 0, 1) := by decide +kernel
theorem dL_law_423 : decode cL_law 423 = .ok (.ireturn, 1) := by decide +kernel
theorem dL_law_424 : decode cL_law 424 = .ok (.iload 6, 2) := by decide +kernel
theorem dL_law_426 : decode cL_law 426 = .ok (.ifCond .ne 15, 3) := by decide +kernel
theorem dL_law_429 : decode cL_law 429 = .ok (.aload_n 3, 1) := by decide +kernel
theorem dL_law_430 : decode cL_law 430 = .ok (.iconst 0, 1) := by decide +kernel
theorem dL_law_431 : decode cL_law 431 = .ok (.laload, 1) := by decide +kernel
theorem dL_law_432 : decode cL_law 432 = .ok (.iload 7, 2) := by decide +kernel
theorem dL_law_434 : decode cL_law 434 = .ok (.i2l, 1) := by decide +kernel
theorem dL_law_435 : decode cL_law 435 = .ok (.lcmp, 1) := by decide +kernel
theorem dL_law_436 : decode cL_law 436 = .ok (.ifCond .eq 5, 3) := by decide +kernel
theorem dL_law_439 : decode cL_law 439 = .ok (.iconst 0, 1) := by decide +kernel
theorem dL_law_440 : decode cL_law 440 = .ok (.ireturn, 1) := by decide +kernel
theorem dL_law_441 : decode cL_law 441 = .ok (.goto 2175, 3) := by decide +kernel
theorem dL_law_444 : decode cL_law 444 = .ok (.aload_n 1, 1) := by decide +kernel
theorem dL_law_445 : decode cL_law 445 = .ok (.aload_n 0, 1) := by decide +kernel
theorem dL_law_446 : decode cL_law 446 = .ok (.iload 5, 2) := by decide +kernel
theorem dL_law_448 : decode cL_law 448 = .ok (.iconst 1, 1) := by decide +kernel
theorem dL_law_449 : decode cL_law 449 = .ok (.iadd, 1) := by decide +kernel
theorem dL_law_450 : decode cL_law 450 = .ok (.iaload, 1) := by decide +kernel
theorem dL_law_451 : decode cL_law 451 = .ok (.aload_n 0, 1) := by decide +kernel
theorem dL_law_452 : decode cL_law 452 = .ok (.iload 5, 2) := by decide +kernel
theorem dL_law_454 : decode cL_law 454 = .ok (.iconst 2, 1) := by decide +kernel
theorem dL_law_455 : decode cL_law 455 = .ok (.iadd, 1) := by decide +kernel
theorem dL_law_456 : decode cL_law 456 = .ok (.iaload, 1) := by decide +kernel
theorem dL_law_457 : decode cL_law 457 = .ok (.aload_n 3, 1) := by decide +kernel
theorem dL_law_458 : decode cL_law 458 = .ok (.invokestatic 153, 3) := by decide +kernel
theorem dL_law_461 : decode cL_law 461 = .ok (.istore 6, 2) := by decide +kernel
theorem dL_law_463 : decode cL_law 463 = .ok (.aload_n 2, 1) := by decide +kernel
theorem dL_law_464 : decode cL_law 464 = .ok (.aload_n 0, 1) := by decide +kernel
theorem dL_law_465 : decode cL_law 465 = .ok (.iload 5, 2) := by decide +kernel
theorem dL_law_467 : decode cL_law 467 = .ok (.iconst 1, 1) := by decide +kernel
theorem dL_law_468 : decode cL_law 468 = .ok (.iadd, 1) := by decide +kernel
theorem dL_law_469 : decode cL_law 469 = .ok (.iaload, 1) := by decide +kernel
theorem dL_law_470 : decode cL_law 470 = .ok (.aload_n 0, 1) := by decide +kernel
theorem dL_law_471 : decode cL_law 471 = .ok (.iload 5, 2) := by decide +kernel
theorem dL_law_473 : decode cL_law 473 = .ok (.iconst 2, 1) := by decide +kernel
theorem dL_law_474 : decode cL_law 474 = .ok (.iadd, 1) := by decide +kernel
theorem dL_law_475 : decode cL_law 475 = .ok (.iaload, 1) := by decide +kernel
theorem dL_law_476 : decode cL_law 476 = .ok (.invokevirtual 155, 3) := by decide +kernel
theorem dL_law_479 : decode cL_law 479 = .ok (.istore 7, 2) := by decide +kernel
theorem dL_law_481 : decode cL_law 481 = .ok (.aload_n 2, 1) := by decide +kernel
theorem dL_law_482 : decode cL_law 482 = .ok (.invokevirtual 142, 3) := by decide +kernel
theorem dL_law_485 : decode cL_law 485 = .ok (.iload 6, 2) := by decide +kernel
theorem dL_law_487 : decode cL_law 487 = .ok (.if_icmp .eq 5, 3) := by decide +kernel
theorem dL_law_490 : decode cL_law 490 = .ok (.iconst 0, 1) := by decide +kernel
theorem dL_law_491 : decode cL_law 491 = .ok (.ireturn, 1) := by decide +kernel
theorem dL_law_492 : decode cL_law 492 = .ok (.iload 6, 2) := by decide +kernel
theorem dL_law_494 : decode cL_law 494 = .ok (.ifCond .ne 15, 3) := by decide +kernel
theorem dL_law_497 : decode cL_law 497 = .ok (.aload_n 3, 1) := by decide +kernel
theorem dL_law_498 : decode cL_law 498 = .ok (.iconst 0, 1) := by decide +kernel
theorem dL_law_499 : decode cL_law 499 = .ok (.laload, 1) := by decide +kernel
theorem dL_law_500 : decode cL_law 500 = .ok (.iload 7, 2) := by decide +kernel
theorem dL_law_502 : decode cL_law 502 = .ok (.i2l, 1) := by decide +kernel
theorem dL_law_503 : decode cL_law 503 = .ok (.lcmp, 1) := by decide +kernel
theorem dL_law_504 : decode cL_law 504 = .ok (.ifCond .eq 5, 3) := by decide +kernel
theorem dL_law_507 : decode cL_law 507 = .ok (.iconst 0, 1) := by decide +kernel
theorem dL_law_508 : decode cL_law 508 = .ok (.ireturn, 1) := by decide +kernel
theorem dL_law_509 : decode cL_law 509 = .ok (.goto 2107, 3) := by decide +kernel
theorem dL_law_512 : decode cL_law 512 = .ok (.aload_n 1, 1) := by decide +kernel
theorem dL_law_513 : decode cL_law 513 = .ok (.aload_n 0, 1) := by decide +kernel
theorem dL_law_514 : decode cL_law 514 = .ok (.iload 5, 2) := by decide +kernel
theorem dL_law_516 : decode cL_law 516 = .ok (.iconst 1, 1) := by decide +kernel
theorem dL_law_517 : decode cL_law 517 = .ok (.iadd, 1) := by decide +kernel
theorem dL_law_518 : decode cL_law 518 = .ok (.iaload, 1) := by decide +kernel
theorem dL_law_519 : decode cL_law 519 = .ok (.aload_n 0, 1) := by decide +kernel
theorem dL_law_520 : decode cL_law 520 = .ok (.iload 5, 2) := by decide +kernel
theorem dL_law_522 : decode cL_law 522 = .ok (.iconst 2, 1) := by decide +kernel
theorem dL_law_523 : decode cL_law 523 = .ok (.iadd, 1) := by decide +kernel
theorem dL_law_524 : decode cL_law 524 = .ok (.iaload, 1) := by decide +kernel
theorem dL_law_525 : decode cL_law 525 = .ok (.aload_n 3, 1) := by decide +kernel
theorem dL_law_526 : decode cL_law 526 = .ok (.invokestatic 156, 3) := by decide +kernel
theorem dL_law_529 : decode cL_law 529 = .ok (.istore 6, 2) := by decide +kernel
theorem dL_law_531 : decode cL_law 531 = .ok (.aload_n 2, 1) := by decide +kernel
theorem dL_law_532 : decode cL_law 532 = .ok (.aload_n 0, 1) := by decide +kernel
theorem dL_law_533 : decode cL_law 533 = .ok (.iload 5, 2) := by decide +kernel
theorem dL_law_535 : decode cL_law 535 = .ok (.iconst 1, 1) := by decide +kernel
theorem dL_law_536 : decode cL_law 536 = .ok (.iadd, 1) := by decide +kernel
theorem dL_law_537 : decode cL_law 537 = .ok (.iaload, 1) := by decide +kernel
theorem dL_law_538 : decode cL_law 538 = .ok (.aload_n 0, 1) := by decide +kernel
theorem dL_law_539 : decode cL_law 539 = .ok (.iload 5, 2) := by decide +kernel
theorem dL_law_541 : decode cL_law 541 = .ok (.iconst 2, 1) := by decide +kernel
theorem dL_law_542 : decode cL_law 542 = .ok (.iadd, 1) := by decide +kernel
theorem dL_law_543 : decode cL_law 543 = .ok (.iaload, 1) := by decide +kernel
theorem dL_law_544 : decode cL_law 544 = .ok (.invokevirtual 158, 3) := by decide +kernel
theorem dL_law_547 : decode cL_law 547 = .ok (.istore 7, 2) := by decide +kernel
theorem dL_law_549 : decode cL_law 549 = .ok (.aload_n 2, 1) := by decide +kernel
theorem dL_law_550 : decode cL_law 550 = .ok (.invokevirtual 142, 3) := by decide +kernel
theorem dL_law_553 : decode cL_law 553 = .ok (.iload 6, 2) := by decide +kernel
theorem dL_law_555 : decode cL_law 555 = .ok (.if_icmp .eq 5, 3) := by decide +kernel
theorem dL_law_558 : decode cL_law 558 = .ok (.iconst 0, 1) := by decide +kernel
theorem dL_law_559 : decode cL_law 559 = .ok (.ireturn, 1) := by decide +kernel
theorem dL_law_560 : decode cL_law 560 = .ok (.iload 6, 2) := by decide +kernel
theorem dL_law_562 : decode cL_law 562 = .ok (.ifCond .ne 15, 3) := by decide +kernel
theorem dL_law_565 : decode cL_law 565 = .ok (.aload_n 3, 1) := by decide +kernel
theorem dL_law_566 : decode cL_law 566 = .ok (.iconst 0, 1) := by decide +kernel
theorem dL_law_567 : decode cL_law 567 = .ok (.laload, 1) := by decide +kernel
theorem dL_law_568 : decode cL_law 568 = .ok (.iload 7, 2) := by decide +kernel
theorem dL_law_570 : decode cL_law 570 = .ok (.i2l, 1) := by decide +kernel
theorem dL_law_571 : decode cL_law 571 = .ok (.lcmp, 1) := by decide +kernel
theorem dL_law_572 : decode cL_law 572 = .ok (.ifCond .eq 5, 3) := by decide +kernel
theorem dL_law_575 : decode cL_law 575 = .ok (.iconst 0, 1) := by decide +kernel
theorem dL_law_576 : decode cL_law 576 = .ok (.ireturn, 1) := by decide +kernel
theorem dL_law_577 : decode cL_law 577 = .ok (.goto 2039, 3) := by decide +kernel
theorem dL_law_580 : decode cL_law 580 = .ok (.aload_n 1, 1) := by decide +kernel
theorem dL_law_581 : decode cL_law 581 = .ok (.aload_n 0, 1) := by decide +kernel
theorem dL_law_582 : decode cL_law 582 = .ok (.iload 5, 2) := by decide +kernel
theorem dL_law_584 : decode cL_law 584 = .ok (.iconst 1, 1) := by decide +kernel
theorem dL_law_585 : decode cL_law 585 = .ok (.iadd, 1) := by decide +kernel
theorem dL_law_586 : decode cL_law 586 = .ok (.iaload, 1) := by decide +kernel
theorem dL_law_587 : decode cL_law 587 = .ok (.aload_n 0, 1) := by decide +kernel
theorem dL_law_588 : decode cL_law 588 = .ok (.iload 5, 2) := by decide +kernel
theorem dL_law_590 : decode cL_law 590 = .ok (.iconst 2, 1) := by decide +kernel
theorem dL_law_591 : decode cL_law 591 = .ok (.iadd, 1) := by decide +kernel
theorem dL_law_592 : decode cL_law 592 = .ok (.iaload, 1) := by decide +kernel
theorem dL_law_593 : decode cL_law 593 = .ok (.aload_n 0, 1) := by decide +kernel
theorem dL_law_594 : decode cL_law 594 = .ok (.iload 5, 2) := by decide +kernel
theorem dL_law_596 : decode cL_law 596 = .ok (.iconst 3, 1) := by decide +kernel
theorem dL_law_597 : decode cL_law 597 = .ok (.iadd, 1) := by decide +kernel
theorem dL_law_598 : decode cL_law 598 = .ok (.iaload, 1) := by decide +kernel
theorem dL_law_599 : decode cL_law 599 = .ok (.aload_n 3, 1) := by decide +kernel
theorem dL_law_600 : decode cL_law 600 = .ok (.invokestatic 159, 3) := by decide +kernel
theorem dL_law_603 : decode cL_law 603 = .ok (.istore 6, 2) := by decide +kernel
theorem dL_law_605 : decode cL_law 605 = .ok (.aload_n 2, 1) := by decide +kernel
theorem dL_law_606 : decode cL_law 606 = .ok (.aload_n 0, 1) := by decide +kernel
theorem dL_law_607 : decode cL_law 607 = .ok (.iload 5, 2) := by decide +kernel
theorem dL_law_609 : decode cL_law 609 = .ok (.iconst 1, 1) := by decide +kernel
theorem dL_law_610 : decode cL_law 610 = .ok (.iadd, 1) := by decide +kernel
theorem dL_law_611 : decode cL_law 611 = .ok (.iaload, 1) := by decide +kernel
theorem dL_law_612 : decode cL_law 612 = .ok (.aload_n 0, 1) := by decide +kernel
theorem dL_law_613 : decode cL_law 613 = .ok (.iload 5, 2) := by decide +kernel
theorem dL_law_615 : decode cL_law 615 = .ok (.iconst 2, 1) := by decide +kernel
theorem dL_law_616 : decode cL_law 616 = .ok (.iadd, 1) := by decide +kernel
theorem dL_law_617 : decode cL_law 617 = .ok (.iaload, 1) := by decide +kernel
theorem dL_law_618 : decode cL_law 618 = .ok (.aload_n 0, 1) := by decide +kernel
theorem dL_law_619 : decode cL_law 619 = .ok (.iload 5, 2) := by decide +kernel
theorem dL_law_621 : decode cL_law 621 = .ok (.iconst 3, 1) := by decide +kernel
theorem dL_law_622 : decode cL_law 622 = .ok (.iadd, 1) := by decide +kernel
theorem dL_law_623 : decode cL_law 623 = .ok (.iaload, 1) := by decide +kernel
theorem dL_law_624 : decode cL_law 624 = .ok (.invokevirtual 161, 3) := by decide +kernel
theorem dL_law_627 : decode cL_law 627 = .ok (.istore 7, 2) := by decide +kernel
theorem dL_law_629 : decode cL_law 629 = .ok (.aload_n 2, 1) := by decide +kernel
theorem dL_law_630 : decode cL_law 630 = .ok (.invokevirtual 142, 3) := by decide +kernel
theorem dL_law_633 : decode cL_law 633 = .ok (.iload 6, 2) := by decide +kernel
theorem dL_law_635 : decode cL_law 635 = .ok (.if_icmp .eq 5, 3) := by decide +kernel
theorem dL_law_638 : decode cL_law 638 = .ok (.iconst 0, 1) := by decide +kernel
theorem dL_law_639 : decode cL_law 639 = .ok (.ireturn, 1) := by decide +kernel
theorem dL_law_640 : decode cL_law 640 = .ok (.iload 6, 2) := by decide +kernel
theorem dL_law_642 : decode cL_law 642 = .ok (.ifCond .ne 15, 3) := by decide +kernel
theorem dL_law_645 : decode cL_law 645 = .ok (.aload_n 3, 1) := by decide +kernel
theorem dL_law_646 : decode cL_law 646 = .ok (.iconst 0, 1) := by decide +kernel
theorem dL_law_647 : decode cL_law 647 = .ok (.laload, 1) := by decide +kernel
theorem dL_law_648 : decode cL_law 648 = .ok (.iload 7, 2) := by decide +kernel
theorem dL_law_650 : decode cL_law 650 = .ok (.i2l, 1) := by decide +kernel
theorem dL_law_651 : decode cL_law 651 = .ok (.lcmp, 1) := by decide +kernel
theorem dL_law_652 : decode cL_law 652 = .ok (.ifCond .eq 5, 3) := by decide +kernel
theorem dL_law_655 : decode cL_law 655 = .ok (.iconst 0, 1) := by decide +kernel
theorem dL_law_656 : decode cL_law 656 = .ok (.ireturn, 1) := by decide +kernel
theorem dL_law_657 : decode cL_law 657 = .ok (.goto 1959, 3) := by decide +kernel
theorem dL_law_660 : decode cL_law 660 = .ok (.aload_n 1, 1) := by decide +kernel
theorem dL_law_661 : decode cL_law 661 = .ok (.aload_n 0, 1) := by decide +kernel
theorem dL_law_662 : decode cL_law 662 = .ok (.iload 5, 2) := by decide +kernel
theorem dL_law_664 : decode cL_law 664 = .ok (.iconst 1, 1) := by decide +kernel
theorem dL_law_665 : decode cL_law 665 = .ok (.iadd, 1) := by decide +kernel
theorem dL_law_666 : decode cL_law 666 = .ok (.iaload, 1) := by decide +kernel
theorem dL_law_667 : decode cL_law 667 = .ok (.aload_n 3, 1) := by decide +kernel
theorem dL_law_668 : decode cL_law 668 = .ok (.invokestatic 162, 3) := by decide +kernel
theorem dL_law_671 : decode cL_law 671 = .ok (.istore 6, 2) := by decide +kernel
theorem dL_law_673 : decode cL_law 673 = .ok (.aload_n 2, 1) := by decide +kernel
theorem dL_law_674 : decode cL_law 674 = .ok (.aload_n 0, 1) := by decide +kernel
theorem dL_law_675 : decode cL_law 675 = .ok (.iload 5, 2) := by decide +kernel
theorem dL_law_677 : decode cL_law 677 = .ok (.iconst 1, 1) := by decide +kernel
theorem dL_law_678 : decode cL_law 678 = .ok (.iadd, 1) := by decide +kernel
theorem dL_law_679 : decode cL_law 679 = .ok (.iaload, 1) := by decide +kernel
theorem dL_law_680 : decode cL_law 680 = .ok (.invokevirtual 164, 3) := by decide +kernel
theorem dL_law_683 : decode cL_law 683 = .ok (.istore 7, 2) := by decide +kernel
theorem dL_law_685 : decode cL_law 685 = .ok (.aload_n 2, 1) := by decide +kernel
theorem dL_law_686 : decode cL_law 686 = .ok (.invokevirtual 142, 3) := by decide +kernel
theorem dL_law_689 : decode cL_law 689 = .ok (.iload 6, 2) := by decide +kernel
theorem dL_law_691 : decode cL_law 691 = .ok (.if_icmp .eq 5, 3) := by decide +kernel
theorem dL_law_694 : decode cL_law 694 = .ok (.iconst 0, 1) := by decide +kernel
theorem dL_law_695 : decode cL_law 695 = .ok (.ireturn, 1) := by decide +kernel
theorem dL_law_696 : decode cL_law 696 = .ok (.iload 6, 2) := by decide +kernel
theorem dL_law_698 : decode cL_law 698 = .ok (.ifCond .ne 15, 3) := by decide +kernel
theorem dL_law_701 : decode cL_law 701 = .ok (.aload_n 3, 1) := by decide +kernel
theorem dL_law_702 : decode cL_law 702 = .ok (.iconst 0, 1) := by decide +kernel
theorem dL_law_703 : decode cL_law 703 = .ok (.laload, 1) := by decide +kernel
theorem dL_law_704 : decode cL_law 704 = .ok (.iload 7, 2) := by decide +kernel
theorem dL_law_706 : decode cL_law 706 = .ok (.i2l, 1) := by decide +kernel
theorem dL_law_707 : decode cL_law 707 = .ok (.lcmp, 1) := by decide +kernel
theorem dL_law_708 : decode cL_law 708 = .ok (.ifCond .eq 5, 3) := by decide +kernel
theorem dL_law_711 : decode cL_law 711 = .ok (.iconst 0, 1) := by decide +kernel
theorem dL_law_712 : decode cL_law 712 = .ok (.ireturn, 1) := by decide +kernel
theorem dL_law_713 : decode cL_law 713 = .ok (.goto 1903, 3) := by decide +kernel
theorem dL_law_716 : decode cL_law 716 = .ok (.aload_n 1, 1) := by decide +kernel
theorem dL_law_717 : decode cL_law 717 = .ok (.invokevirtual 165, 3) := by decide +kernel
theorem dL_law_720 : decode cL_law 720 = .ok (.aload_n 2, 1) := by decide +kernel
theorem dL_law_721 : decode cL_law 721 = .ok (.invokevirtual 168, 3) := by decide +kernel
theorem dL_law_724 : decode cL_law 724 = .ok (.if_icmp .eq 1892, 3) := by decide +kernel
theorem dL_law_727 : decode cL_law 727 = .ok (.iconst 0, 1) := by decide +kernel
theorem dL_law_728 : decode cL_law 728 = .ok (.ireturn, 1) := by decide +kernel
theorem dL_law_729 : decode cL_law 729 = .ok (.aload_n 1, 1) := by decide +kernel
theorem dL_law_730 : decode cL_law 730 = .ok (.invokevirtual 169, 3) := by decide +kernel
theorem dL_law_733 : decode cL_law 733 = .ok (.aload_n 2, 1) := by decide +kernel
theorem dL_law_734 : decode cL_law 734 = .ok (.invokevirtual 172, 3) := by decide +kernel
theorem dL_law_737 : decode cL_law 737 = .ok (.if_icmp .eq 1879, 3) := by decide +kernel
theorem dL_law_740 : decode cL_law 740 = .ok (.iconst 0, 1) := by decide +kernel
theorem dL_law_741 : decode cL_law 741 = .ok (.ireturn, 1) := by decide +kernel
theorem dL_law_742 : decode cL_law 742 = .ok (.aload_n 1, 1) := by decide +kernel
theorem dL_law_743 : decode cL_law 743 = .ok (.aload_n 3, 1) := by decide +kernel
theorem dL_law_744 : decode cL_law 744 = .ok (.invokestatic 173, 3) := by decide +kernel
theorem dL_law_747 : decode cL_law 747 = .ok (.istore 6, 2) := by decide +kernel
theorem dL_law_749 : decode cL_law 749 = .ok (.aload_n 2, 1) := by decide +kernel
theorem dL_law_750 : decode cL_law 750 = .ok (.invokevirtual 176, 3) := by decide +kernel
theorem dL_law_753 : decode cL_law 753 = .ok (.istore 7, 2) := by decide +kernel
theorem dL_law_755 : decode cL_law 755 = .ok (.aload_n 2, 1) := by decide +kernel
theorem dL_law_756 : decode cL_law 756 = .ok (.invokevirtual 142, 3) := by decide +kernel
theorem dL_law_759 : decode cL_law 759 = .ok (.iload 6, 2) := by decide +kernel
theorem dL_law_761 : decode cL_law 761 = .ok (.if_icmp .eq 5, 3) := by decide +kernel
theorem dL_law_764 : decode cL_law 764 = .ok (.iconst 0, 1) := by decide +kernel
theorem dL_law_765 : decode cL_law 765 = .ok (.ireturn, 1) := by decide +kernel
theorem dL_law_766 : decode cL_law 766 = .ok (.iload 6, 2) := by decide +kernel
theorem dL_law_768 : decode cL_law 768 = .ok (.ifCond .ne 15, 3) := by decide +kernel
theorem dL_law_771 : decode cL_law 771 = .ok (.aload_n 3, 1) := by decide +kernel
theorem dL_law_772 : decode cL_law 772 = .ok (.iconst 0, 1) := by decide +kernel
theorem dL_law_773 : decode cL_law 773 = .ok (.laload, 1) := by decide +kernel
theorem dL_law_774 : decode cL_law 774 = .ok (.iload 7, 2) := by decide +kernel
theorem dL_law_776 : decode cL_law 776 = .ok (.i2l, 1) := by decide +kernel
theorem dL_law_777 : decode cL_law 777 = .ok (.lcmp, 1) := by decide +kernel
theorem dL_law_778 : decode cL_law 778 = .ok (.ifCond .eq 5, 3) := by decide +kernel
theorem dL_law_781 : decode cL_law 781 = .ok (.iconst 0, 1) := by decide +kernel
theorem dL_law_782 : decode cL_law 782 = .ok (.ireturn, 1) := by decide +kernel
theorem dL_law_783 : decode cL_law 783 = .ok (.goto 1833, 3) := by decide +kernel
theorem dL_law_786 : decode cL_law 786 = .ok (.aload_n 1, 1) := by decide +kernel
theorem dL_law_787 : decode cL_law 787 = .ok (.invokevirtual 177, 3) := by decide +kernel
theorem dL_law_790 : decode cL_law 790 = .ok (.aload_n 2, 1) := by decide +kernel
theorem dL_law_791 : decode cL_law 791 = .ok (.invokevirtual 181, 3) := by decide +kernel
theorem dL_law_794 : decode cL_law 794 = .ok (.if_icmp .eq 1822, 3) := by decide +kernel
theorem dL_law_797 : decode cL_law 797 = .ok (.iconst 0, 1) := by decide +kernel
theorem dL_law_798 : decode cL_law 798 = .ok (.ireturn, 1) := by decide +kernel
theorem dL_law_799 : decode cL_law 799 = .ok (.aload_n 1, 1) := by decide +kernel
theorem dL_law_800 : decode cL_law 800 = .ok (.aload_n 3, 1) := by decide +kernel
theorem dL_law_801 : decode cL_law 801 = .ok (.invokestatic 182, 3) := by decide +kernel
theorem dL_law_804 : decode cL_law 804 = .ok (.istore 6, 2) := by decide +kernel
theorem dL_law_806 : decode cL_law 806 = .ok (.aload_n 2, 1) := by decide +kernel
theorem dL_law_807 : decode cL_law 807 = .ok (.invokevirtual 184, 3) := by decide +kernel
theorem dL_law_810 : decode cL_law 810 = .ok (.istore 7, 2) := by decide +kernel
theorem dL_law_812 : decode cL_law 812 = .ok (.aload_n 2, 1) := by decide +kernel
theorem dL_law_813 : decode cL_law 813 = .ok (.invokevirtual 142, 3) := by decide +kernel
theorem dL_law_816 : decode cL_law 816 = .ok (.iload 6, 2) := by decide +kernel
theorem dL_law_818 : decode cL_law 818 = .ok (.if_icmp .eq 5, 3) := by decide +kernel
theorem dL_law_821 : decode cL_law 821 = .ok (.iconst 0, 1) := by decide +kernel
theorem dL_law_822 : decode cL_law 822 = .ok (.ireturn, 1) := by decide +kernel
theorem dL_law_823 : decode cL_law 823 = .ok (.iload 6, 2) := by decide +kernel
theorem dL_law_825 : decode cL_law 825 = .ok (.ifCond .ne 15, 3) := by decide +kernel
theorem dL_law_828 : decode cL_law 828 = .ok (.aload_n 3, 1) := by decide +kernel
theorem dL_law_829 : decode cL_law 829 = .ok (.iconst 0, 1) := by decide +kernel
theorem dL_law_830 : decode cL_law 830 = .ok (.laload, 1) := by decide +kernel
theorem dL_law_831 : decode cL_law 831 = .ok (.iload 7, 2) := by decide +kernel
theorem dL_law_833 : decode cL_law 833 = .ok (.i2l, 1) := by decide +kernel
theorem dL_law_834 : decode cL_law 834 = .ok (.lcmp, 1) := by decide +kernel
theorem dL_law_835 : decode cL_law 835 = .ok (.ifCond .eq 5, 3) := by decide +kernel
theorem dL_law_838 : decode cL_law 838 = .ok (.iconst 0, 1) := by decide +kernel
theorem dL_law_839 : decode cL_law 839 = .ok (.ireturn, 1) := by decide +kernel
theorem dL_law_840 : decode cL_law 840 = .ok (.goto 1776, 3) := by decide +kernel
theorem dL_law_843 : decode cL_law 843 = .ok (.aload_n 1, 1) := by decide +kernel
theorem dL_law_844 : decode cL_law 844 = .ok (.aload_n 3, 1) := by decide +kernel
theorem dL_law_845 : decode cL_law 845 = .ok (.invokestatic 185, 3) := by decide +kernel
theorem dL_law_848 : decode cL_law 848 = .ok (.istore 6, 2) := by decide +kernel
theorem dL_law_850 : decode cL_law 850 = .ok (.aload_n 2, 1) := by decide +kernel
theorem dL_law_851 : decode cL_law 851 = .ok (.invokevirtual 187, 3) := by decide +kernel
theorem dL_law_854 : decode cL_law 854 = .ok (.istore 7, 2) := by decide +kernel
theorem dL_law_856 : decode cL_law 856 = .ok (.aload_n 2, 1) := by decide +kernel
theorem dL_law_857 : decode cL_law 857 = .ok (.invokevirtual 142, 3) := by decide +kernel
theorem dL_law_860 : decode cL_law 860 = .ok (.iload 6, 2) := by decide +kernel
theorem dL_law_862 : decode cL_law 862 = .ok (.if_icmp .eq 5, 3) := by decide +kernel
theorem dL_law_865 : decode cL_law 865 = .ok (.iconst 0, 1) := by decide +kernel
theorem dL_law_866 : decode cL_law 866 = .ok (.ireturn, 1) := by decide +kernel
theorem dL_law_867 : decode cL_law 867 = .ok (.iload 6, 2) := by decide +kernel
theorem dL_law_869 : decode cL_law 869 = .ok (.ifCond .ne 15, 3) := by decide +kernel
theorem dL_law_872 : decode cL_law 872 = .ok (.aload_n 3, 1) := by decide +kernel
theorem dL_law_873 : decode cL_law 873 = .ok (.iconst 0, 1) := by decide +kernel
theorem dL_law_874 : decode cL_law 874 = .ok (.laload, 1) := by decide +kernel
theorem dL_law_875 : decode cL_law 875 = .ok (.iload 7, 2) := by decide +kernel
theorem dL_law_877 : decode cL_law 877 = .ok (.i2l, 1) := by decide +kernel
theorem dL_law_878 : decode cL_law 878 = .ok (.lcmp, 1) := by decide +kernel
theorem dL_law_879 : decode cL_law 879 = .ok (.ifCond .eq 5, 3) := by decide +kernel
theorem dL_law_882 : decode cL_law 882 = .ok (.iconst 0, 1) := by decide +kernel
theorem dL_law_883 : decode cL_law 883 = .ok (.ireturn, 1) := by decide +kernel
theorem dL_law_884 : decode cL_law 884 = .ok (.goto 1732, 3) := by decide +kernel
theorem dL_law_887 : decode cL_law 887 = .ok (.aload_n 1, 1) := by decide +kernel
theorem dL_law_888 : decode cL_law 888 = .ok (.aload_n 3, 1) := by decide +kernel
theorem dL_law_889 : decode cL_law 889 = .ok (.invokestatic 188, 3) := by decide +kernel
theorem dL_law_892 : decode cL_law 892 = .ok (.istore 6, 2) := by decide +kernel
theorem dL_law_894 : decode cL_law 894 = .ok (.aload_n 2, 1) := by decide +kernel
theorem dL_law_895 : decode cL_law 895 = .ok (.invokevirtual 190, 3) := by decide +kernel
theorem dL_law_898 : decode cL_law 898 = .ok (.istore 7, 2) := by decide +kernel
theorem dL_law_900 : decode cL_law 900 = .ok (.aload_n 2, 1) := by decide +kernel
theorem dL_law_901 : decode cL_law 901 = .ok (.invokevirtual 142, 3) := by decide +kernel
theorem dL_law_904 : decode cL_law 904 = .ok (.iload 6, 2) := by decide +kernel
theorem dL_law_906 : decode cL_law 906 = .ok (.if_icmp .eq 5, 3) := by decide +kernel
theorem dL_law_909 : decode cL_law 909 = .ok (.iconst 0, 1) := by decide +kernel
theorem dL_law_910 : decode cL_law 910 = .ok (.ireturn, 1) := by decide +kernel
theorem dL_law_911 : decode cL_law 911 = .ok (.iload 6, 2) := by decide +kernel
theorem dL_law_913 : decode cL_law 913 = .ok (.ifCond .ne 15, 3) := by decide +kernel
theorem dL_law_916 : decode cL_law 916 = .ok (.aload_n 3, 1) := by decide +kernel
theorem dL_law_917 : decode cL_law 917 = .ok (.iconst 0, 1) := by decide +kernel
theorem dL_law_918 : decode cL_law 918 = .ok (.laload, 1) := by decide +kernel
theorem dL_law_919 : decode cL_law 919 = .ok (.iload 7, 2) := by decide +kernel
theorem dL_law_921 : decode cL_law 921 = .ok (.i2l, 1) := by decide +kernel
theorem dL_law_922 : decode cL_law 922 = .ok (.lcmp, 1) := by decide +kernel
theorem dL_law_923 : decode cL_law 923 = .ok (.ifCond .eq 5, 3) := by decide +kernel
theorem dL_law_926 : decode cL_law 926 = .ok (.iconst 0, 1) := by decide +kernel
theorem dL_law_927 : decode cL_law 927 = .ok (.ireturn, 1) := by decide +kernel
theorem dL_law_928 : decode cL_law 928 = .ok (.goto 1688, 3) := by decide +kernel
theorem dL_law_931 : decode cL_law 931 = .ok (.aload_n 1, 1) := by decide +kernel
theorem dL_law_932 : decode cL_law 932 = .ok (.invokevirtual 191, 3) := by decide +kernel
theorem dL_law_935 : decode cL_law 935 = .ok (.aload_n 2, 1) := by decide +kernel
theorem dL_law_936 : decode cL_law 936 = .ok (.invokevirtual 194, 3) := by decide +kernel
theorem dL_law_939 : decode cL_law 939 = .ok (.if_icmp .eq 1677, 3) := by decide +kernel
theorem dL_law_942 : decode cL_law 942 = .ok (.iconst 0, 1) := by decide +kernel
theorem dL_law_943 : decode cL_law 943 = .ok (.ireturn, 1) := by decide +kernel
theorem dL_law_944 : decode cL_law 944 = .ok (.aload_n 1, 1) := by decide +kernel
theorem dL_law_945 : decode cL_law 945 = .ok (.aload_n 3, 1) := by decide +kernel
theorem dL_law_946 : decode cL_law 946 = .ok (.invokestatic 195, 3) := by decide +kernel
theorem dL_law_949 : decode cL_law 949 = .ok (.istore 6, 2) := by decide +kernel
theorem dL_law_951 : decode cL_law 951 = .ok (.aload_n 2, 1) := by decide +kernel
theorem dL_law_952 : decode cL_law 952 = .ok (.invokevirtual 197, 3) := by decide +kernel
theorem dL_law_955 : decode cL_law 955 = .ok (.istore 7, 2) := by decide +kernel
theorem dL_law_957 : decode cL_law 957 = .ok (.aload_n 2, 1) := by decide +kernel
theorem dL_law_958 : decode cL_law 958 = .ok (.invokevirtual 142, 3) := by decide +kernel
theorem dL_law_961 : decode cL_law 961 = .ok (.iload 6, 2) := by decide +kernel
theorem dL_law_963 : decode cL_law 963 = .ok (.if_icmp .eq 5, 3) := by decide +kernel
theorem dL_law_966 : decode cL_law 966 = .ok (.iconst 0, 1) := by decide +kernel
theorem dL_law_967 : decode cL_law 967 = .ok (.ireturn, 1) := by decide +kernel
theorem dL_law_968 : decode cL_law 968 = .ok (.iload 6, 2) := by decide +kernel
theorem dL_law_970 : decode cL_law 970 = .ok (.ifCond .ne 15, 3) := by decide +kernel
theorem dL_law_973 : decode cL_law 973 = .ok (.aload_n 3, 1) := by decide +kernel
theorem dL_law_974 : decode cL_law 974 = .ok (.iconst 0, 1) := by decide +kernel
theorem dL_law_975 : decode cL_law 975 = .ok (.laload, 1) := by decide +kernel
theorem dL_law_976 : decode cL_law 976 = .ok (.iload 7, 2) := by decide +kernel
theorem dL_law_978 : decode cL_law 978 = .ok (.i2l, 1) := by decide +kernel
theorem dL_law_979 : decode cL_law 979 = .ok (.lcmp, 1) := by decide +kernel
theorem dL_law_980 : decode cL_law 980 = .ok (.ifCond .eq 5, 3) := by decide +kernel
theorem dL_law_983 : decode cL_law 983 = .ok (.iconst 0, 1) := by decide +kernel
theorem dL_law_984 : decode cL_law 984 = .ok (.ireturn, 1) := by decide +kernel
theorem dL_law_985 : decode cL_law 985 = .ok (.goto 1631, 3) := by decide +kernel
theorem dL_law_988 : decode cL_law 988 = .ok (.aload_n 1, 1) := by decide +kernel
theorem dL_law_989 : decode cL_law 989 = .ok (.invokevirtual 198, 3) := by decide +kernel
theorem dL_law_992 : decode cL_law 992 = .ok (.aload_n 2, 1) := by decide +kernel
theorem dL_law_993 : decode cL_law 993 = .ok (.invokevirtual 201, 3) := by decide +kernel
theorem dL_law_996 : decode cL_law 996 = .ok (.if_icmp .eq 1620, 3) := by decide +kernel
theorem dL_law_999 : decode cL_law 999 = .ok (.iconst 0, 1) := by decide +kernel
theorem dL_law_1000 : decode cL_law 1000 = .ok (.ireturn, 1) := by decide +kernel
theorem dL_law_1001 : decode cL_law 1001 = .ok (.aload_n 1, 1) := by decide +kernel
theorem dL_law_1002 : decode cL_law 1002 = .ok (.invokevirtual 202, 3) := by decide +kernel
theorem dL_law_1005 : decode cL_law 1005 = .ok (.aload_n 2, 1) := by decide +kernel
theorem dL_law_1006 : decode cL_law 1006 = .ok (.invokevirtual 205, 3) := by decide +kernel
theorem dL_law_1009 : decode cL_law 1009 = .ok (.if_icmp .eq 1607, 3) := by decide +kernel
theorem dL_law_1012 : decode cL_law 1012 = .ok (.iconst 0, 1) := by decide +kernel
theorem dL_law_1013 : decode cL_law 1013 = .ok (.ireturn, 1) := by decide +kernel
theorem dL_law_1014 : decode cL_law 1014 = .ok (.aload_n 1, 1) := by decide +kernel
theorem dL_law_1015 : decode cL_law 1015 = .ok (.aload_n 0, 1) := by decide +kernel
theorem dL_law_1016 : decode cL_law 1016 = .ok (.iload 5, 2) := by decide +kernel
theorem dL_law_1018 : decode cL_law 1018 = .ok (.iconst 1, 1) := by decide +kernel
theorem dL_law_1019 : decode cL_law 1019 = .ok (.iadd, 1) := by decide +kernel
theorem dL_law_1020 : decode cL_law 1020 = .ok (.iaload, 1) := by decide +kernel
theorem dL_law_1021 : decode cL_law 1021 = .ok (.aload_n 3, 1) := by decide +kernel
theorem dL_law_1022 : decode cL_law 1022 = .ok (.invokestatic 206, 3) := by decide +kernel
theorem dL_law_1025 : decode cL_law 1025 = .ok (.istore 6, 2) := by decide +kernel
theorem dL_law_1027 : decode cL_law 1027 = .ok (.aload_n 2, 1) := by decide +kernel
theorem dL_law_1028 : decode cL_law 1028 = .ok (.aload_n 0, 1) := by decide +kernel
theorem dL_law_1029 : decode cL_law 1029 = .ok (.iload 5, 2) := by decide +kernel
theorem dL_law_1031 : decode cL_law 1031 = .ok (.iconst 1, 1) := by decide +kernel
theorem dL_law_1032 : decode cL_law 1032 = .ok (.iadd, 1) := by decide +kernel
theorem dL_law_1033 : decode cL_law 1033 = .ok (.iaload, 1) := by decide +kernel
theorem dL_law_1034 : decode cL_law 1034 = .ok (.invokevirtual 208, 3) := by decide +kernel
theorem dL_law_1037 : decode cL_law 1037 = .ok (.istore 7, 2) := by decide +kernel
theorem dL_law_1039 : decode cL_law 1039 = .ok (.aload_n 2, 1) := by decide +kernel
theorem dL_law_1040 : decode cL_law 1040 = .ok (.invokevirtual 142, 3) := by decide +kernel
theorem dL_law_1043 : decode cL_law 1043 = .ok (.iload 6, 2) := by decide +kernel
theorem dL_law_1045 : decode cL_law 1045 = .ok (.if_icmp .eq 5, 3) := by decide +kernel
theorem dL_law_1048 : decode cL_law 1048 = .ok (.iconst 0, 1) := by decide +kernel
theorem dL_law_1049 : decode cL_law 1049 = .ok (.ireturn, 1) := by decide +kernel
theorem dL_law_1050 : decode cL_law 1050 = .ok (.iload 6, 2) := by decide +kernel
theorem dL_law_1052 : decode cL_law 1052 = .ok (.ifCond .ne 15, 3) := by decide +kernel
theorem dL_law_1055 : decode cL_law 1055 = .ok (.aload_n 3, 1) := by decide +kernel
theorem dL_law_1056 : decode cL_law 1056 = .ok (.iconst 0, 1) := by decide +kernel
theorem dL_law_1057 : decode cL_law 1057 = .ok (.laload, 1) := by decide +kernel
theorem dL_law_1058 : decode cL_law 1058 = .ok (.iload 7, 2) := by decide +kernel
theorem dL_law_1060 : decode cL_law 1060 = .ok (.i2l, 1) := by decide +kernel
theorem dL_law_1061 : decode cL_law 1061 = .ok (.lcmp, 1) := by decide +kernel
theorem dL_law_1062 : decode cL_law 1062 = .ok (.ifCond .eq 5, 3) := by decide +kernel
theorem dL_law_1065 : decode cL_law 1065 = .ok (.iconst 0, 1) := by decide +kernel
theorem dL_law_1066 : decode cL_law 1066 = .ok (.ireturn, 1) := by decide +kernel
theorem dL_law_1067 : decode cL_law 1067 = .ok (.goto 1549, 3) := by decide +kernel
theorem dL_law_1070 : decode cL_law 1070 = .ok (.aload_n 1, 1) := by decide +kernel
theorem dL_law_1071 : decode cL_law 1071 = .ok (.aload_n 0, 1) := by decide +kernel
theorem dL_law_1072 : decode cL_law 1072 = .ok (.iload 5, 2) := by decide +kernel
theorem dL_law_1074 : decode cL_law 1074 = .ok (.iconst 1, 1) := by decide +kernel
theorem dL_law_1075 : decode cL_law 1075 = .ok (.iadd, 1) := by decide +kernel
theorem dL_law_1076 : decode cL_law 1076 = .ok (.iaload, 1) := by decide +kernel
theorem dL_law_1077 : decode cL_law 1077 = .ok (.aload_n 3, 1) := by decide +kernel
theorem dL_law_1078 : decode cL_law 1078 = .ok (.invokestatic 209, 3) := by decide +kernel
theorem dL_law_1081 : decode cL_law 1081 = .ok (.istore 6, 2) := by decide +kernel
theorem dL_law_1083 : decode cL_law 1083 = .ok (.aload_n 2, 1) := by decide +kernel
theorem dL_law_1084 : decode cL_law 1084 = .ok (.aload_n 0, 1) := by decide +kernel
theorem dL_law_1085 : decode cL_law 1085 = .ok (.iload 5, 2) := by decide +kernel
theorem dL_law_1087 : decode cL_law 1087 = .ok (.iconst 1, 1) := by decide +kernel
theorem dL_law_1088 : decode cL_law 1088 = .ok (.iadd, 1) := by decide +kernel
theorem dL_law_1089 : decode cL_law 1089 = .ok (.iaload, 1) := by decide +kernel
theorem dL_law_1090 : decode cL_law 1090 = .ok (.invokevirtual 211, 3) := by decide +kernel
theorem dL_law_1093 : decode cL_law 1093 = .ok (.istore 7, 2) := by decide +kernel
theorem dL_law_1095 : decode cL_law 1095 = .ok (.aload_n 2, 1) := by decide +kernel
theorem dL_law_1096 : decode cL_law 1096 = .ok (.invokevirtual 142, 3) := by decide +kernel
theorem dL_law_1099 : decode cL_law 1099 = .ok (.iload 6, 2) := by decide +kernel
theorem dL_law_1101 : decode cL_law 1101 = .ok (.if_icmp .eq 5, 3) := by decide +kernel
theorem dL_law_1104 : decode cL_law 1104 = .ok (.iconst 0, 1) := by decide +kernel
theorem dL_law_1105 : decode cL_law 1105 = .ok (.ireturn, 1) := by decide +kernel
theorem dL_law_1106 : decode cL_law 1106 = .ok (.iload 6, 2) := by decide +kernel
theorem dL_law_1108 : decode cL_law 1108 = .ok (.ifCond .ne 15, 3) := by decide +kernel
theorem dL_law_1111 : decode cL_law 1111 = .ok (.aload_n 3, 1) := by decide +kernel
theorem dL_law_1112 : decode cL_law 1112 = .ok (.iconst 0, 1) := by decide +kernel
theorem dL_law_1113 : decode cL_law 1113 = .ok (.laload, 1) := by decide +kernel
theorem dL_law_1114 : decode cL_law 1114 = .ok (.iload 7, 2) := by decide +kernel
theorem dL_law_1116 : decode cL_law 1116 = .ok (.i2l, 1) := by decide +kernel
theorem dL_law_1117 : decode cL_law 1117 = .ok (.lcmp, 1) := by decide +kernel
theorem dL_law_1118 : decode cL_law 1118 = .ok (.ifCond .eq 5, 3) := by decide +kernel
theorem dL_law_1121 : decode cL_law 1121 = .ok (.iconst 0, 1) := by decide +kernel
theorem dL_law_1122 : decode cL_law 1122 = .ok (.ireturn, 1) := by decide +kernel
theorem dL_law_1123 : decode cL_law 1123 = .ok (.goto 1493, 3) := by decide +kernel
theorem dL_law_1126 : decode cL_law 1126 = .ok (.aload_n 1, 1) := by decide +kernel
theorem dL_law_1127 : decode cL_law 1127 = .ok (.aload_n 0, 1) := by decide +kernel
theorem dL_law_1128 : decode cL_law 1128 = .ok (.iload 5, 2) := by decide +kernel
theorem dL_law_1130 : decode cL_law 1130 = .ok (.iconst 1, 1) := by decide +kernel
theorem dL_law_1131 : decode cL_law 1131 = .ok (.iadd, 1) := by decide +kernel
theorem dL_law_1132 : decode cL_law 1132 = .ok (.iaload, 1) := by decide +kernel
theorem dL_law_1133 : decode cL_law 1133 = .ok (.aload_n 3, 1) := by decide +kernel
theorem dL_law_1134 : decode cL_law 1134 = .ok (.invokestatic 212, 3) := by decide +kernel
theorem dL_law_1137 : decode cL_law 1137 = .ok (.istore 6, 2) := by decide +kernel
theorem dL_law_1139 : decode cL_law 1139 = .ok (.aload_n 2, 1) := by decide +kernel
theorem dL_law_1140 : decode cL_law 1140 = .ok (.aload_n 0, 1) := by decide +kernel
theorem dL_law_1141 : decode cL_law 1141 = .ok (.iload 5, 2) := by decide +kernel
theorem dL_law_1143 : decode cL_law 1143 = .ok (.iconst 1, 1) := by decide +kernel
theorem dL_law_1144 : decode cL_law 1144 = .ok (.iadd, 1) := by decide +kernel
theorem dL_law_1145 : decode cL_law 1145 = .ok (.iaload, 1) := by decide +kernel
theorem dL_law_1146 : decode cL_law 1146 = .ok (.invokevirtual 214, 3) := by decide +kernel
theorem dL_law_1149 : decode cL_law 1149 = .ok (.istore 7, 2) := by decide +kernel
theorem dL_law_1151 : decode cL_law 1151 = .ok (.aload_n 2, 1) := by decide +kernel
theorem dL_law_1152 : decode cL_law 1152 = .ok (.invokevirtual 142, 3) := by decide +kernel
theorem dL_law_1155 : decode cL_law 1155 = .ok (.iload 6, 2) := by decide +kernel
theorem dL_law_1157 : decode cL_law 1157 = .ok (.if_icmp .eq 5, 3) := by decide +kernel
theorem dL_law_1160 : decode cL_law 1160 = .ok (.iconst 0, 1) := by decide +kernel
theorem dL_law_1161 : decode cL_law 1161 = .ok (.ireturn, 1) := by decide +kernel
theorem dL_law_1162 : decode cL_law 1162 = .ok (.iload 6, 2) := by decide +kernel
theorem dL_law_1164 : decode cL_law 1164 = .ok (.ifCond .ne 15, 3) := by decide +kernel
theorem dL_law_1167 : decode cL_law 1167 = .ok (.aload_n 3, 1) := by decide +kernel
theorem dL_law_1168 : decode cL_law 1168 = .ok (.iconst 0, 1) := by decide +kernel
theorem dL_law_1169 : decode cL_law 1169 = .ok (.laload, 1) := by decide +kernel
theorem dL_law_1170 : decode cL_law 1170 = .ok (.iload 7, 2) := by decide +kernel
theorem dL_law_1172 : decode cL_law 1172 = .ok (.i2l, 1) := by decide +kernel
theorem dL_law_1173 : decode cL_law 1173 = .ok (.lcmp, 1) := by decide +kernel
theorem dL_law_1174 : decode cL_law 1174 = .ok (.ifCond .eq 5, 3) := by decide +kernel
theorem dL_law_1177 : decode cL_law 1177 = .ok (.iconst 0, 1) := by decide +kernel
theorem dL_law_1178 : decode cL_law 1178 = .ok (.ireturn, 1) := by decide +kernel
theorem dL_law_1179 : decode cL_law 1179 = .ok (.goto 1437, 3) := by decide +kernel
theorem dL_law_1182 : decode cL_law 1182 = .ok (.aload_n 1, 1) := by decide +kernel
theorem dL_law_1183 : decode cL_law 1183 = .ok (.aload_n 0, 1) := by decide +kernel
theorem dL_law_1184 : decode cL_law 1184 = .ok (.iload 5, 2) := by decide +kernel
theorem dL_law_1186 : decode cL_law 1186 = .ok (.iconst 1, 1) := by decide +kernel
theorem dL_law_1187 : decode cL_law 1187 = .ok (.iadd, 1) := by decide +kernel
theorem dL_law_1188 : decode cL_law 1188 = .ok (.iaload, 1) := by decide +kernel
theorem dL_law_1189 : decode cL_law 1189 = .ok (.aload_n 0, 1) := by decide +kernel
theorem dL_law_1190 : decode cL_law 1190 = .ok (.iload 5, 2) := by decide +kernel
theorem dL_law_1192 : decode cL_law 1192 = .ok (.iconst 2, 1) := by decide +kernel
theorem dL_law_1193 : decode cL_law 1193 = .ok (.iadd, 1) := by decide +kernel
theorem dL_law_1194 : decode cL_law 1194 = .ok (.iaload, 1) := by decide +kernel
theorem dL_law_1195 : decode cL_law 1195 = .ok (.aload_n 3, 1) := by decide +kernel
theorem dL_law_1196 : decode cL_law 1196 = .ok (.invokestatic 215, 3) := by decide +kernel
theorem dL_law_1199 : decode cL_law 1199 = .ok (.istore 6, 2) := by decide +kernel
theorem dL_law_1201 : decode cL_law 1201 = .ok (.aload_n 2, 1) := by decide +kernel
theorem dL_law_1202 : decode cL_law 1202 = .ok (.aload_n 0, 1) := by decide +kernel
theorem dL_law_1203 : decode cL_law 1203 = .ok (.iload 5, 2) := by decide +kernel
theorem dL_law_1205 : decode cL_law 1205 = .ok (.iconst 1, 1) := by decide +kernel
theorem dL_law_1206 : decode cL_law 1206 = .ok (.iadd, 1) := by decide +kernel
theorem dL_law_1207 : decode cL_law 1207 = .ok (.iaload, 1) := by decide +kernel
theorem dL_law_1208 : decode cL_law 1208 = .ok (.aload_n 0, 1) := by decide +kernel
theorem dL_law_1209 : decode cL_law 1209 = .ok (.iload 5, 2) := by decide +kernel
theorem dL_law_1211 : decode cL_law 1211 = .ok (.iconst 2, 1) := by decide +kernel
theorem dL_law_1212 : decode cL_law 1212 = .ok (.iadd, 1) := by decide +kernel
theorem dL_law_1213 : decode cL_law 1213 = .ok (.iaload, 1) := by decide +kernel
theorem dL_law_1214 : decode cL_law 1214 = .ok (.invokevirtual 217, 3) := by decide +kernel
theorem dL_law_1217 : decode cL_law 1217 = .ok (.istore 7, 2) := by decide +kernel
theorem dL_law_1219 : decode cL_law 1219 = .ok (.aload_n 2, 1) := by decide +kernel
theorem dL_law_1220 : decode cL_law 1220 = .ok (.invokevirtual 142, 3) := by decide +kernel
theorem dL_law_1223 : decode cL_law 1223 = .ok (.iload 6, 2) := by decide +kernel
theorem dL_law_1225 : decode cL_law 1225 = .ok (.if_icmp .eq 5, 3) := by decide +kernel
theorem dL_law_1228 : decode cL_law 1228 = .ok (.iconst 0, 1) := by decide +kernel
theorem dL_law_1229 : decode cL_law 1229 = .ok (.ireturn, 1) := by decide +kernel
theorem dL_law_1230 : decode cL_law 1230 = .ok (.iload 6, 2) := by decide +kernel
theorem dL_law_1232 : decode cL_law 1232 = .ok (.ifCond .ne 15, 3) := by decide +kernel
theorem dL_law_1235 : decode cL_law 1235 = .ok (.aload_n 3, 1) := by decide +kernel
theorem dL_law_1236 : decode cL_law 1236 = .ok (.iconst 0, 1) := by decide +kernel
theorem dL_law_1237 : decode cL_law 1237 = .ok (.laload, 1) := by decide +kernel
theorem dL_law_1238 : decode cL_law 1238 = .ok (.iload 7, 2) := by decide +kernel
theorem dL_law_1240 : decode cL_law 1240 = .ok (.i2l, 1) := by decide +kernel
theorem dL_law_1241 : decode cL_law 1241 = .ok (.lcmp, 1) := by decide +kernel
theorem dL_law_1242 : decode cL_law 1242 = .ok (.ifCond .eq 5, 3) := by decide +kernel
theorem dL_law_1245 : decode cL_law 1245 = .ok (.iconst 0, 1) := by decide +kernel
theorem dL_law_1246 : decode cL_law 1246 = .ok (.ireturn, 1) := by decide +kernel
theorem dL_law_1247 : decode cL_law 1247 = .ok (.goto 1369, 3) := by decide +kernel
theorem dL_law_1250 : decode cL_law 1250 = .ok (.aload_n 1, 1) := by decide +kernel
theorem dL_law_1251 : decode cL_law 1251 = .ok (.invokevirtual 218, 3) := by decide +kernel
theorem dL_law_1254 : decode cL_law 1254 = .ok (.aload_n 2, 1) := by decide +kernel
theorem dL_law_1255 : decode cL_law 1255 = .ok (.invokevirtual 221, 3) := by decide +kernel
theorem dL_law_1258 : decode cL_law 1258 = .ok (.if_icmp .eq 1358, 3) := by decide +kernel
theorem dL_law_1261 : decode cL_law 1261 = .ok (.iconst 0, 1) := by decide +kernel
theorem dL_law_1262 : decode cL_law 1262 = .ok (.ireturn, 1) := by decide +kernel
theorem dL_law_1263 : decode cL_law 1263 = .ok (.aload_n 1, 1) := by decide +kernel
theorem dL_law_1264 : decode cL_law 1264 = .ok (.aload_n 0, 1) := by decide +kernel
theorem dL_law_1265 : decode cL_law 1265 = .ok (.iload 5, 2) := by decide +kernel
theorem dL_law_1267 : decode cL_law 1267 = .ok (.iconst 1, 1) := by decide +kernel
theorem dL_law_1268 : decode cL_law 1268 = .ok (.iadd, 1) := by decide +kernel
theorem dL_law_1269 : decode cL_law 1269 = .ok (.iaload, 1) := by decide +kernel
theorem dL_law_1270 : decode cL_law 1270 = .ok (.aload_n 3, 1) := by decide +kernel
theorem dL_law_1271 : decode cL_law 1271 = .ok (.invokestatic 222, 3) := by decide +kernel
theorem dL_law_1274 : decode cL_law 1274 = .ok (.istore 6, 2) := by decide +kernel
theorem dL_law_1276 : decode cL_law 1276 = .ok (.aload_n 2, 1) := by decide +kernel
theorem dL_law_1277 : decode cL_law 1277 = .ok (.aload_n 0, 1) := by decide +kernel
theorem dL_law_1278 : decode cL_law 1278 = .ok (.iload 5, 2) := by decide +kernel
theorem dL_law_1280 : decode cL_law 1280 = .ok (.iconst 1, 1) := by decide +kernel
theorem dL_law_1281 : decode cL_law 1281 = .ok (.iadd, 1) := by decide +kernel
theorem dL_law_1282 : decode cL_law 1282 = .ok (.iaload, 1) := by decide +kernel
theorem dL_law_1283 : decode cL_law 1283 = .ok (.invokevirtual 224, 3) := by decide +kernel
theorem dL_law_1286 : decode cL_law 1286 = .ok (.istore 7, 2) := by decide +kernel
theorem dL_law_1288 : decode cL_law 1288 = .ok (.aload_n 2, 1) := by decide +kernel
theorem dL_law_1289 : decode cL_law 1289 = .ok (.invokevirtual 142, 3) := by decide +kernel
theorem dL_law_1292 : decode cL_law 1292 = .ok (.iload 6, 2) := by decide +kernel
theorem dL_law_1294 : decode cL_law 1294 = .ok (.if_icmp .eq 5, 3) := by decide +kernel
theorem dL_law_1297 : decode cL_law 1297 = .ok (.iconst 0, 1) := by decide +kernel
theorem dL_law_1298 : decode cL_law 1298 = .ok (.ireturn, 1) := by decide +kernel
theorem dL_law_1299 : decode cL_law 1299 = .ok (.iload 6, 2) := by decide +kernel
theorem dL_law_1301 : decode cL_law 1301 = .ok (.ifCond .ne 15, 3) := by decide +kernel
theorem dL_law_1304 : decode cL_law 1304 = .ok (.aload_n 3, 1) := by decide +kernel
theorem dL_law_1305 : decode cL_law 1305 = .ok (.iconst 0, 1) := by decide +kernel
theorem dL_law_1306 : decode cL_law 1306 = .ok (.laload, 1) := by decide +kernel
theorem dL_law_1307 : decode cL_law 1307 = .ok (.iload 7, 2) := by decide +kernel
theorem dL_law_1309 : decode cL_law 1309 = .ok (.i2l, 1) := by decide +kernel
theorem dL_law_1310 : decode cL_law 1310 = .ok (.lcmp, 1) := by decide +kernel
theorem dL_law_1311 : decode cL_law 1311 = .ok (.ifCond .eq 5, 3) := by decide +kernel
theorem dL_law_1314 : decode cL_law 1314 = .ok (.iconst 0, 1) := by decide +kernel
theorem dL_law_1315 : decode cL_law 1315 = .ok (.ireturn, 1) := by decide +kernel
theorem dL_law_1316 : decode cL_law 1316 = .ok (.goto 1300, 3) := by decide +kernel
theorem dL_law_1319 : decode cL_law 1319 = .ok (.aload_n 1, 1) := by decide +kernel
theorem dL_law_1320 : decode cL_law 1320 = .ok (.aload_n 0, 1) := by decide +kernel
theorem dL_law_1321 : decode cL_law 1321 = .ok (.iload 5, 2) := by decide +kernel
theorem dL_law_1323 : decode cL_law 1323 = .ok (.iconst 1, 1) := by decide +kernel
theorem dL_law_1324 : decode cL_law 1324 = .ok (.iadd, 1) := by decide +kernel
theorem dL_law_1325 : decode cL_law 1325 = .ok (.iaload, 1) := by decide +kernel
theorem dL_law_1326 : decode cL_law 1326 = .ok (.aload_n 0, 1) := by decide +kernel
theorem dL_law_1327 : decode cL_law 1327 = .ok (.iload 5, 2) := by decide +kernel
theorem dL_law_1329 : decode cL_law 1329 = .ok (.iconst 2, 1) := by decide +kernel
theorem dL_law_1330 : decode cL_law 1330 = .ok (.iadd, 1) := by decide +kernel
theorem dL_law_1331 : decode cL_law 1331 = .ok (.iaload, 1) := by decide +kernel
theorem dL_law_1332 : decode cL_law 1332 = .ok (.aload_n 3, 1) := by decide +kernel
theorem dL_law_1333 : decode cL_law 1333 = .ok (.invokestatic 225, 3) := by decide +kernel
theorem dL_law_1336 : decode cL_law 1336 = .ok (.istore 6, 2) := by decide +kernel
theorem dL_law_1338 : decode cL_law 1338 = .ok (.aload_n 2, 1) := by decide +kernel
theorem dL_law_1339 : decode cL_law 1339 = .ok (.aload_n 0, 1) := by decide +kernel
theorem dL_law_1340 : decode cL_law 1340 = .ok (.iload 5, 2) := by decide +kernel
theorem dL_law_1342 : decode cL_law 1342 = .ok (.iconst 1, 1) := by decide +kernel
theorem dL_law_1343 : decode cL_law 1343 = .ok (.iadd, 1) := by decide +kernel
theorem dL_law_1344 : decode cL_law 1344 = .ok (.iaload, 1) := by decide +kernel
theorem dL_law_1345 : decode cL_law 1345 = .ok (.aload_n 0, 1) := by decide +kernel
theorem dL_law_1346 : decode cL_law 1346 = .ok (.iload 5, 2) := by decide +kernel
theorem dL_law_1348 : decode cL_law 1348 = .ok (.iconst 2, 1) := by decide +kernel
theorem dL_law_1349 : decode cL_law 1349 = .ok (.iadd, 1) := by decide +kernel
theorem dL_law_1350 : decode cL_law 1350 = .ok (.iaload, 1) := by decide +kernel
theorem dL_law_1351 : decode cL_law 1351 = .ok (.invokevirtual 227, 3) := by decide +kernel
theorem dL_law_1354 : decode cL_law 1354 = .ok (.istore 7, 2) := by decide +kernel
theorem dL_law_1356 : decode cL_law 1356 = .ok (.aload_n 2, 1) := by decide +kernel
theorem dL_law_1357 : decode cL_law 1357 = .ok (.invokevirtual 142, 3) := by decide +kernel
theorem dL_law_1360 : decode cL_law 1360 = .ok (.iload 6, 2) := by decide +kernel
theorem dL_law_1362 : decode cL_law 1362 = .ok (.if_icmp .eq 5, 3) := by decide +kernel
theorem dL_law_1365 : decode cL_law 1365 = .ok (.iconst 0, 1) := by decide +kernel
theorem dL_law_1366 : decode cL_law 1366 = .ok (.ireturn, 1) := by decide +kernel
theorem dL_law_1367 : decode cL_law 1367 = .ok (.iload 6, 2) := by decide +kernel
theorem dL_law_1369 : decode cL_law 1369 = .ok (.ifCond .ne 15, 3) := by decide +kernel
theorem dL_law_1372 : decode cL_law 1372 = .ok (.aload_n 3, 1) := by decide +kernel
theorem dL_law_1373 : decode cL_law 1373 = .ok (.iconst 0, 1) := by decide +kernel
theorem dL_law_1374 : decode cL_law 1374 = .ok (.laload, 1) := by decide +kernel
theorem dL_law_1375 : decode cL_law 1375 = .ok (.iload 7, 2) := by decide +kernel
theorem dL_law_1377 : decode cL_law 1377 = .ok (.i2l, 1) := by decide +kernel
theorem dL_law_1378 : decode cL_law 1378 = .ok (.lcmp, 1) := by decide +kernel
theorem dL_law_1379 : decode cL_law 1379 = .ok (.ifCond .eq 5, 3) := by decide +kernel
theorem dL_law_1382 : decode cL_law 1382 = .ok (.iconst 0, 1) := by decide +kernel
theorem dL_law_1383 : decode cL_law 1383 = .ok (.ireturn, 1) := by decide +kernel
theorem dL_law_1384 : decode cL_law 1384 = .ok (.goto 1232, 3) := by decide +kernel
theorem dL_law_1387 : decode cL_law 1387 = .ok (.aload_n 1, 1) := by decide +kernel
theorem dL_law_1388 : decode cL_law 1388 = .ok (.aload_n 0, 1) := by decide +kernel
theorem dL_law_1389 : decode cL_law 1389 = .ok (.iload 5, 2) := by decide +kernel
theorem dL_law_1391 : decode cL_law 1391 = .ok (.iconst 1, 1) := by decide +kernel
theorem dL_law_1392 : decode cL_law 1392 = .ok (.iadd, 1) := by decide +kernel
theorem dL_law_1393 : decode cL_law 1393 = .ok (.iaload, 1) := by decide +kernel
theorem dL_law_1394 : decode cL_law 1394 = .ok (.aload_n 0, 1) := by decide +kernel
theorem dL_law_1395 : decode cL_law 1395 = .ok (.iload 5, 2) := by decide +kernel
theorem dL_law_1397 : decode cL_law 1397 = .ok (.iconst 2, 1) := by decide +kernel
theorem dL_law_1398 : decode cL_law 1398 = .ok (.iadd, 1) := by decide +kernel
theorem dL_law_1399 : decode cL_law 1399 = .ok (.iaload, 1) := by decide +kernel
theorem dL_law_1400 : decode cL_law 1400 = .ok (.aload_n 3, 1) := by decide +kernel
theorem dL_law_1401 : decode cL_law 1401 = .ok (.invokestatic 228, 3) := by decide +kernel
theorem dL_law_1404 : decode cL_law 1404 = .ok (.istore 6, 2) := by decide +kernel
theorem dL_law_1406 : decode cL_law 1406 = .ok (.aload_n 2, 1) := by decide +kernel
theorem dL_law_1407 : decode cL_law 1407 = .ok (.aload_n 0, 1) := by decide +kernel
theorem dL_law_1408 : decode cL_law 1408 = .ok (.iload 5, 2) := by decide +kernel
theorem dL_law_1410 : decode cL_law 1410 = .ok (.iconst 1, 1) := by decide +kernel
theorem dL_law_1411 : decode cL_law 1411 = .ok (.iadd, 1) := by decide +kernel
theorem dL_law_1412 : decode cL_law 1412 = .ok (.iaload, 1) := by decide +kernel
theorem dL_law_1413 : decode cL_law 1413 = .ok (.aload_n 0, 1) := by decide +kernel
theorem dL_law_1414 : decode cL_law 1414 = .ok (.iload 5, 2) := by decide +kernel
theorem dL_law_1416 : decode cL_law 1416 = .ok (.iconst 2, 1) := by decide +kernel
theorem dL_law_1417 : decode cL_law 1417 = .ok (.iadd, 1) := by decide +kernel
theorem dL_law_1418 : decode cL_law 1418 = .ok (.iaload, 1) := by decide +kernel
theorem dL_law_1419 : decode cL_law 1419 = .ok (.invokevirtual 230, 3) := by decide +kernel
theorem dL_law_1422 : decode cL_law 1422 = .ok (.istore 7, 2) := by decide +kernel
theorem dL_law_1424 : decode cL_law 1424 = .ok (.aload_n 2, 1) := by decide +kernel
theorem dL_law_1425 : decode cL_law 1425 = .ok (.invokevirtual 142, 3) := by decide +kernel
theorem dL_law_1428 : decode cL_law 1428 = .ok (.iload 6, 2) := by decide +kernel
theorem dL_law_1430 : decode cL_law 1430 = .ok (.if_icmp .eq 5, 3) := by decide +kernel
theorem dL_law_1433 : decode cL_law 1433 = .ok (.iconst 0, 1) := by decide +kernel
theorem dL_law_1434 : decode cL_law 1434 = .ok (.ireturn, 1) := by decide +kernel
theorem dL_law_1435 : decode cL_law 1435 = .ok (.iload 6, 2) := by decide +kernel
theorem dL_law_1437 : decode cL_law 1437 = .ok (.ifCond .ne 15, 3) := by decide +kernel
theorem dL_law_1440 : decode cL_law 1440 = .ok (.aload_n 3, 1) := by decide +kernel
theorem dL_law_1441 : decode cL_law 1441 = .ok (.iconst 0, 1) := by decide +kernel
theorem dL_law_1442 : decode cL_law 1442 = .ok (.laload, 1) := by decide +kernel
theorem dL_law_1443 : decode cL_law 1443 = .ok (.iload 7, 2) := by decide +kernel
theorem dL_law_1445 : decode cL_law 1445 = .ok (.i2l, 1) := by decide +kernel
theorem dL_law_1446 : decode cL_law 1446 = .ok (.lcmp, 1) := by decide +kernel
theorem dL_law_1447 : decode cL_law 1447 = .ok (.ifCond .eq 5, 3) := by decide +kernel
theorem dL_law_1450 : decode cL_law 1450 = .ok (.iconst 0, 1) := by decide +kernel
theorem dL_law_1451 : decode cL_law 1451 = .ok (.ireturn, 1) := by decide +kernel
theorem dL_law_1452 : decode cL_law 1452 = .ok (.goto 1164, 3) := by decide +kernel
theorem dL_law_1455 : decode cL_law 1455 = .ok (.aload_n 1, 1) := by decide +kernel
theorem dL_law_1456 : decode cL_law 1456 = .ok (.aload_n 0, 1) := by decide +kernel
theorem dL_law_1457 : decode cL_law 1457 = .ok (.iload 5, 2) := by decide +kernel
theorem dL_law_1459 : decode cL_law 1459 = .ok (.iconst 1, 1) := by decide +kernel
theorem dL_law_1460 : decode cL_law 1460 = .ok (.iadd, 1) := by decide +kernel
theorem dL_law_1461 : decode cL_law 1461 = .ok (.iaload, 1) := by decide +kernel
theorem dL_law_1462 : decode cL_law 1462 = .ok (.aload_n 3, 1) := by decide +kernel
theorem dL_law_1463 : decode cL_law 1463 = .ok (.invokestatic 231, 3) := by decide +kernel
theorem dL_law_1466 : decode cL_law 1466 = .ok (.istore 6, 2) := by decide +kernel
theorem dL_law_1468 : decode cL_law 1468 = .ok (.aload_n 2, 1) := by decide +kernel
theorem dL_law_1469 : decode cL_law 1469 = .ok (.aload_n 0, 1) := by decide +kernel
theorem dL_law_1470 : decode cL_law 1470 = .ok (.iload 5, 2) := by decide +kernel
theorem dL_law_1472 : decode cL_law 1472 = .ok (.iconst 1, 1) := by decide +kernel
theorem dL_law_1473 : decode cL_law 1473 = .ok (.iadd, 1) := by decide +kernel
theorem dL_law_1474 : decode cL_law 1474 = .ok (.iaload, 1) := by decide +kernel
theorem dL_law_1475 : decode cL_law 1475 = .ok (.invokevirtual 233, 3) := by decide +kernel
theorem dL_law_1478 : decode cL_law 1478 = .ok (.istore 7, 2) := by decide +kernel
theorem dL_law_1480 : decode cL_law 1480 = .ok (.aload_n 2, 1) := by decide +kernel
theorem dL_law_1481 : decode cL_law 1481 = .ok (.invokevirtual 142, 3) := by decide +kernel
theorem dL_law_1484 : decode cL_law 1484 = .ok (.iload 6, 2) := by decide +kernel
theorem dL_law_1486 : decode cL_law 1486 = .ok (.if_icmp .eq 5, 3) := by decide +kernel
theorem dL_law_1489 : decode cL_law 1489 = .ok (.iconst 0, 1) := by decide +kernel
theorem dL_law_1490 : decode cL_law 1490 = .ok (.ireturn, 1) := by decide +kernel
theorem dL_law_1491 : decode cL_law 1491 = .ok (.iload 6, 2) := by decide +kernel
theorem dL_law_1493 : decode cL_law 1493 = .ok (.ifCond .ne 15, 3) := by decide +kernel
theorem dL_law_1496 : decode cL_law 1496 = .ok (.aload_n 3, 1) := by decide +kernel
theorem dL_law_1497 : decode cL_law 1497 = .ok (.iconst 0, 1) := by decide +kernel
theorem dL_law_1498 : decode cL_law 1498 = .ok (.laload, 1) := by decide +kernel
theorem dL_law_1499 : decode cL_law 1499 = .ok (.iload 7, 2) := by decide +kernel
theorem dL_law_1501 : decode cL_law 1501 = .ok (.i2l, 1) := by decide +kernel
theorem dL_law_1502 : decode cL_law 1502 = .ok (.lcmp, 1) := by decide +kernel
theorem dL_law_1503 : decode cL_law 1503 = .ok (.ifCond .eq 5, 3) := by decide +kernel
theorem dL_law_1506 : decode cL_law 1506 = .ok (.iconst 0, 1) := by decide +kernel
theorem dL_law_1507 : decode cL_law 1507 = .ok (.ireturn, 1) := by decide +kernel
theorem dL_law_1508 : decode cL_law 1508 = .ok (.goto 1108, 3) := by decide +kernel
theorem dL_law_1511 : decode cL_law 1511 = .ok (.aload_n 1, 1) := by decide +kernel
theorem dL_law_1512 : decode cL_law 1512 = .ok (.aload_n 0, 1) := by decide +kernel
theorem dL_law_1513 : decode cL_law 1513 = .ok (.iload 5, 2) := by decide +kernel
theorem dL_law_1515 : decode cL_law 1515 = .ok (.iconst 1, 1) := by decide +kernel
theorem dL_law_1516 : decode cL_law 1516 = .ok (.iadd, 1) := by decide +kernel
theorem dL_law_1517 : decode cL_law 1517 = .ok (.iaload, 1) := by decide +kernel
theorem dL_law_1518 : decode cL_law 1518 = .ok (.aload_n 3, 1) := by decide +kernel
theorem dL_law_1519 : decode cL_law 1519 = .ok (.invokestatic 234, 3) := by decide +kernel
theorem dL_law_1522 : decode cL_law 1522 = .ok (.istore 6, 2) := by decide +kernel
theorem dL_law_1524 : decode cL_law 1524 = .ok (.aload_n 2, 1) := by decide +kernel
theorem dL_law_1525 : decode cL_law 1525 = .ok (.aload_n 0, 1) := by decide +kernel
theorem dL_law_1526 : decode cL_law 1526 = .ok (.iload 5, 2) := by decide +kernel
theorem dL_law_1528 : decode cL_law 1528 = .ok (.iconst 1, 1) := by decide +kernel
theorem dL_law_1529 : decode cL_law 1529 = .ok (.iadd, 1) := by decide +kernel
theorem dL_law_1530 : decode cL_law 1530 = .ok (.iaload, 1) := by decide +kernel
theorem dL_law_1531 : decode cL_law 1531 = .ok (.invokevirtual 236, 3) := by decide +kernel
theorem dL_law_1534 : decode cL_law 1534 = .ok (.istore 7, 2) := by decide +kernel
theorem dL_law_1536 : decode cL_law 1536 = .ok (.aload_n 2, 1) := by decide +kernel
theorem dL_law_1537 : decode cL_law 1537 = .ok (.invokevirtual 142, 3) := by decide +kernel
theorem dL_law_1540 : decode cL_law 1540 = .ok (.iload 6, 2) := by decide +kernel
theorem dL_law_1542 : decode cL_law 1542 = .ok (.if_icmp .eq 5, 3) := by decide +kernel
theorem dL_law_1545 : decode cL_law 1545 = .ok (.iconst 0, 1) := by decide +kernel
theorem dL_law_1546 : decode cL_law 1546 = .ok (.ireturn, 1) := by decide +kernel
theorem dL_law_1547 : decode cL_law 1547 = .ok (.iload 6, 2) := by decide +kernel
theorem dL_law_1549 : decode cL_law 1549 = .ok (.ifCond .ne 15, 3) := by decide +kernel
theorem dL_law_1552 : decode cL_law 1552 = .ok (.aload_n 3, 1) := by decide +kernel
theorem dL_law_1553 : decode cL_law 1553 = .ok (.iconst 0, 1) := by decide +kernel
theorem dL_law_1554 : decode cL_law 1554 = .ok (.laload, 1) := by decide +kernel
theorem dL_law_1555 : decode cL_law 1555 = .ok (.iload 7, 2) := by decide +kernel
theorem dL_law_1557 : decode cL_law 1557 = .ok (.i2l, 1) := by decide +kernel
theorem dL_law_1558 : decode cL_law 1558 = .ok (.lcmp, 1) := by decide +kernel
theorem dL_law_1559 : decode cL_law 1559 = .ok (.ifCond .eq 5, 3) := by decide +kernel
theorem dL_law_1562 : decode cL_law 1562 = .ok (.iconst 0, 1) := by decide +kernel
theorem dL_law_1563 : decode cL_law 1563 = .ok (.ireturn, 1) := by decide +kernel
theorem dL_law_1564 : decode cL_law 1564 = .ok (.goto 1052, 3) := by decide +kernel
theorem dL_law_1567 : decode cL_law 1567 = .ok (.aload_n 1, 1) := by decide +kernel
theorem dL_law_1568 : decode cL_law 1568 = .ok (.aload_n 0, 1) := by decide +kernel
theorem dL_law_1569 : decode cL_law 1569 = .ok (.iload 5, 2) := by decide +kernel
theorem dL_law_1571 : decode cL_law 1571 = .ok (.iconst 1, 1) := by decide +kernel
theorem dL_law_1572 : decode cL_law 1572 = .ok (.iadd, 1) := by decide +kernel
theorem dL_law_1573 : decode cL_law 1573 = .ok (.iaload, 1) := by decide +kernel
theorem dL_law_1574 : decode cL_law 1574 = .ok (.aload_n 3, 1) := by decide +kernel
theorem dL_law_1575 : decode cL_law 1575 = .ok (.invokestatic 237, 3) := by decide +kernel
theorem dL_law_1578 : decode cL_law 1578 = .ok (.istore 6, 2) := by decide +kernel
theorem dL_law_1580 : decode cL_law 1580 = .ok (.aload_n 2, 1) := by decide +kernel
theorem dL_law_1581 : decode cL_law 1581 = .ok (.aload_n 0, 1) := by decide +kernel
theorem dL_law_1582 : decode cL_law 1582 = .ok (.iload 5, 2) := by decide +kernel
theorem dL_law_1584 : decode cL_law 1584 = .ok (.iconst 1, 1) := by decide +kernel
theorem dL_law_1585 : decode cL_law 1585 = .ok (.iadd, 1) := by decide +kernel
theorem dL_law_1586 : decode cL_law 1586 = .ok (.iaload, 1) := by decide +kernel
theorem dL_law_1587 : decode cL_law 1587 = .ok (.invokevirtual 239, 3) := by decide +kernel
theorem dL_law_1590 : decode cL_law 1590 = .ok (.istore 7, 2) := by decide +kernel
theorem dL_law_1592 : decode cL_law 1592 = .ok (.aload_n 2, 1) := by decide +kernel
theorem dL_law_1593 : decode cL_law 1593 = .ok (.invokevirtual 142, 3) := by decide +kernel
theorem dL_law_1596 : decode cL_law 1596 = .ok (.iload 6, 2) := by decide +kernel
theorem dL_law_1598 : decode cL_law 1598 = .ok (.if_icmp .eq 5, 3) := by decide +kernel
theorem dL_law_1601 : decode cL_law 1601 = .ok (.iconst 0, 1) := by decide +kernel
theorem dL_law_1602 : decode cL_law 1602 = .ok (.ireturn, 1) := by decide +kernel
theorem dL_law_1603 : decode cL_law 1603 = .ok (.iload 6, 2) := by decide +kernel
theorem dL_law_1605 : decode cL_law 1605 = .ok (.ifCond .ne 15, 3) := by decide +kernel
theorem dL_law_1608 : decode cL_law 1608 = .ok (.aload_n 3, 1) := by decide +kernel
theorem dL_law_1609 : decode cL_law 1609 = .ok (.iconst 0, 1) := by decide +kernel
theorem dL_law_1610 : decode cL_law 1610 = .ok (.laload, 1) := by decide +kernel
theorem dL_law_1611 : decode cL_law 1611 = .ok (.iload 7, 2) := by decide +kernel
theorem dL_law_1613 : decode cL_law 1613 = .ok (.i2l, 1) := by decide +kernel
theorem dL_law_1614 : decode cL_law 1614 = .ok (.lcmp, 1) := by decide +kernel
theorem dL_law_1615 : decode cL_law 1615 = .ok (.ifCond .eq 5, 3) := by decide +kernel
theorem dL_law_1618 : decode cL_law 1618 = .ok (.iconst 0, 1) := by decide +kernel
theorem dL_law_1619 : decode cL_law 1619 = .ok (.ireturn, 1) := by decide +kernel
theorem dL_law_1620 : decode cL_law 1620 = .ok (.goto 996, 3) := by decide +kernel
theorem dL_law_1623 : decode cL_law 1623 = .ok (.aload_n 1, 1) := by decide +kernel
theorem dL_law_1624 : decode cL_law 1624 = .ok (.aload_n 0, 1) := by decide +kernel
theorem dL_law_1625 : decode cL_law 1625 = .ok (.iload 5, 2) := by decide +kernel
theorem dL_law_1627 : decode cL_law 1627 = .ok (.iconst 1, 1) := by decide +kernel
theorem dL_law_1628 : decode cL_law 1628 = .ok (.iadd, 1) := by decide +kernel
theorem dL_law_1629 : decode cL_law 1629 = .ok (.iaload, 1) := by decide +kernel
theorem dL_law_1630 : decode cL_law 1630 = .ok (.aload_n 3, 1) := by decide +kernel
theorem dL_law_1631 : decode cL_law 1631 = .ok (.invokestatic 240, 3) := by decide +kernel
theorem dL_law_1634 : decode cL_law 1634 = .ok (.istore 6, 2) := by decide +kernel
theorem dL_law_1636 : decode cL_law 1636 = .ok (.aload_n 2, 1) := by decide +kernel
theorem dL_law_1637 : decode cL_law 1637 = .ok (.aload_n 0, 1) := by decide +kernel
theorem dL_law_1638 : decode cL_law 1638 = .ok (.iload 5, 2) := by decide +kernel
theorem dL_law_1640 : decode cL_law 1640 = .ok (.iconst 1, 1) := by decide +kernel
theorem dL_law_1641 : decode cL_law 1641 = .ok (.iadd, 1) := by decide +kernel
theorem dL_law_1642 : decode cL_law 1642 = .ok (.iaload, 1) := by decide +kernel
theorem dL_law_1643 : decode cL_law 1643 = .ok (.invokevirtual 242, 3) := by decide +kernel
theorem dL_law_1646 : decode cL_law 1646 = .ok (.istore 7, 2) := by decide +kernel
theorem dL_law_1648 : decode cL_law 1648 = .ok (.aload_n 2, 1) := by decide +kernel
theorem dL_law_1649 : decode cL_law 1649 = .ok (.invokevirtual 142, 3) := by decide +kernel
theorem dL_law_1652 : decode cL_law 1652 = .ok (.iload 6, 2) := by decide +kernel
theorem dL_law_1654 : decode cL_law 1654 = .ok (.if_icmp .eq 5, 3) := by decide +kernel
theorem dL_law_1657 : decode cL_law 1657 = .ok (.iconst 0, 1) := by decide +kernel
theorem dL_law_1658 : decode cL_law 1658 = .ok (.ireturn, 1) := by decide +kernel
theorem dL_law_1659 : decode cL_law 1659 = .ok (.iload 6, 2) := by decide +kernel
theorem dL_law_1661 : decode cL_law 1661 = .ok (.ifCond .ne 15, 3) := by decide +kernel
theorem dL_law_1664 : decode cL_law 1664 = .ok (.aload_n 3, 1) := by decide +kernel
theorem dL_law_1665 : decode cL_law 1665 = .ok (.iconst 0, 1) := by decide +kernel
theorem dL_law_1666 : decode cL_law 1666 = .ok (.laload, 1) := by decide +kernel
theorem dL_law_1667 : decode cL_law 1667 = .ok (.iload 7, 2) := by decide +kernel
theorem dL_law_1669 : decode cL_law 1669 = .ok (.i2l, 1) := by decide +kernel
theorem dL_law_1670 : decode cL_law 1670 = .ok (.lcmp, 1) := by decide +kernel
theorem dL_law_1671 : decode cL_law 1671 = .ok (.ifCond .eq 5, 3) := by decide +kernel
theorem dL_law_1674 : decode cL_law 1674 = .ok (.iconst 0, 1) := by decide +kernel
theorem dL_law_1675 : decode cL_law 1675 = .ok (.ireturn, 1) := by decide +kernel
theorem dL_law_1676 : decode cL_law 1676 = .ok (.goto 940, 3) := by decide +kernel
theorem dL_law_1679 : decode cL_law 1679 = .ok (.aload_n 1, 1) := by decide +kernel
theorem dL_law_1680 : decode cL_law 1680 = .ok (.aload_n 0, 1) := by decide +kernel
theorem dL_law_1681 : decode cL_law 1681 = .ok (.iload 5, 2) := by decide +kernel
theorem dL_law_1683 : decode cL_law 1683 = .ok (.iconst 1, 1) := by decide +kernel
theorem dL_law_1684 : decode cL_law 1684 = .ok (.iadd, 1) := by decide +kernel
theorem dL_law_1685 : decode cL_law 1685 = .ok (.iaload, 1) := by decide +kernel
theorem dL_law_1686 : decode cL_law 1686 = .ok (.aload_n 3, 1) := by decide +kernel
theorem dL_law_1687 : decode cL_law 1687 = .ok (.invokestatic 243, 3) := by decide +kernel
theorem dL_law_1690 : decode cL_law 1690 = .ok (.istore 6, 2) := by decide +kernel
theorem dL_law_1692 : decode cL_law 1692 = .ok (.aload_n 2, 1) := by decide +kernel
theorem dL_law_1693 : decode cL_law 1693 = .ok (.aload_n 0, 1) := by decide +kernel
theorem dL_law_1694 : decode cL_law 1694 = .ok (.iload 5, 2) := by decide +kernel
theorem dL_law_1696 : decode cL_law 1696 = .ok (.iconst 1, 1) := by decide +kernel
theorem dL_law_1697 : decode cL_law 1697 = .ok (.iadd, 1) := by decide +kernel
theorem dL_law_1698 : decode cL_law 1698 = .ok (.iaload, 1) := by decide +kernel
theorem dL_law_1699 : decode cL_law 1699 = .ok (.invokevirtual 245, 3) := by decide +kernel
theorem dL_law_1702 : decode cL_law 1702 = .ok (.istore 7, 2) := by decide +kernel
theorem dL_law_1704 : decode cL_law 1704 = .ok (.aload_n 2, 1) := by decide +kernel
theorem dL_law_1705 : decode cL_law 1705 = .ok (.invokevirtual 142, 3) := by decide +kernel
theorem dL_law_1708 : decode cL_law 1708 = .ok (.iload 6, 2) := by decide +kernel
theorem dL_law_1710 : decode cL_law 1710 = .ok (.if_icmp .eq 5, 3) := by decide +kernel
theorem dL_law_1713 : decode cL_law 1713 = .ok (.iconst 0, 1) := by decide +kernel
theorem dL_law_1714 : decode cL_law 1714 = .ok (.ireturn, 1) := by decide +kernel
theorem dL_law_1715 : decode cL_law 1715 = .ok (.iload 6, 2) := by decide +kernel
theorem dL_law_1717 : decode cL_law 1717 = .ok (.ifCond .ne 15, 3) := by decide +kernel
theorem dL_law_1720 : decode cL_law 1720 = .ok (.aload_n 3, 1) := by decide +kernel
theorem dL_law_1721 : decode cL_law 1721 = .ok (.iconst 0, 1) := by decide +kernel
theorem dL_law_1722 : decode cL_law 1722 = .ok (.laload, 1) := by decide +kernel
theorem dL_law_1723 : decode cL_law 1723 = .ok (.iload 7, 2) := by decide +kernel
theorem dL_law_1725 : decode cL_law 1725 = .ok (.i2l, 1) := by decide +kernel
theorem dL_law_1726 : decode cL_law 1726 = .ok (.lcmp, 1) := by decide +kernel
theorem dL_law_1727 : decode cL_law 1727 = .ok (.ifCond .eq 5, 3) := by decide +kernel
theorem dL_law_1730 : decode cL_law 1730 = .ok (.iconst 0, 1) := by decide +kernel
theorem dL_law_1731 : decode cL_law 1731 = .ok (.ireturn, 1) := by decide +kernel
theorem dL_law_1732 : decode cL_law 1732 = .ok (.goto 884, 3) := by decide +kernel
theorem dL_law_1735 : decode cL_law 1735 = .ok (.aload_n 1, 1) := by decide +kernel
theorem dL_law_1736 : decode cL_law 1736 = .ok (.aload_n 0, 1) := by decide +kernel
theorem dL_law_1737 : decode cL_law 1737 = .ok (.iload 5, 2) := by decide +kernel
theorem dL_law_1739 : decode cL_law 1739 = .ok (.iconst 1, 1) := by decide +kernel
theorem dL_law_1740 : decode cL_law 1740 = .ok (.iadd, 1) := by decide +kernel
theorem dL_law_1741 : decode cL_law 1741 = .ok (.iaload, 1) := by decide +kernel
theorem dL_law_1742 : decode cL_law 1742 = .ok (.aload_n 3, 1) := by decide +kernel
theorem dL_law_1743 : decode cL_law 1743 = .ok (.invokestatic 246, 3) := by decide +kernel
theorem dL_law_1746 : decode cL_law 1746 = .ok (.istore 6, 2) := by decide +kernel
theorem dL_law_1748 : decode cL_law 1748 = .ok (.aload_n 2, 1) := by decide +kernel
theorem dL_law_1749 : decode cL_law 1749 = .ok (.aload_n 0, 1) := by decide +kernel
theorem dL_law_1750 : decode cL_law 1750 = .ok (.iload 5, 2) := by decide +kernel
theorem dL_law_1752 : decode cL_law 1752 = .ok (.iconst 1, 1) := by decide +kernel
theorem dL_law_1753 : decode cL_law 1753 = .ok (.iadd, 1) := by decide +kernel
theorem dL_law_1754 : decode cL_law 1754 = .ok (.iaload, 1) := by decide +kernel
theorem dL_law_1755 : decode cL_law 1755 = .ok (.invokevirtual 248, 3) := by decide +kernel
theorem dL_law_1758 : decode cL_law 1758 = .ok (.istore 7, 2) := by decide +kernel
theorem dL_law_1760 : decode cL_law 1760 = .ok (.aload_n 2, 1) := by decide +kernel
theorem dL_law_1761 : decode cL_law 1761 = .ok (.invokevirtual 142, 3) := by decide +kernel
theorem dL_law_1764 : decode cL_law 1764 = .ok (.iload 6, 2) := by decide +kernel
theorem dL_law_1766 : decode cL_law 1766 = .ok (.if_icmp .eq 5, 3) := by decide +kernel
theorem dL_law_1769 : decode cL_law 1769 = .ok (.iconst 0, 1) := by decide +kernel
theorem dL_law_1770 : decode cL_law 1770 = .ok (.ireturn, 1) := by decide +kernel
theorem dL_law_1771 : decode cL_law 1771 = .ok (.iload 6, 2) := by decide +kernel
theorem dL_law_1773 : decode cL_law 1773 = .ok (.ifCond .ne 15, 3) := by decide +kernel
theorem dL_law_1776 : decode cL_law 1776 = .ok (.aload_n 3, 1) := by decide +kernel
theorem dL_law_1777 : decode cL_law 1777 = .ok (.iconst 0, 1) := by decide +kernel
theorem dL_law_1778 : decode cL_law 1778 = .ok (.laload, 1) := by decide +kernel
theorem dL_law_1779 : decode cL_law 1779 = .ok (.iload 7, 2) := by decide +kernel
theorem dL_law_1781 : decode cL_law 1781 = .ok (.i2l, 1) := by decide +kernel
theorem dL_law_1782 : decode cL_law 1782 = .ok (.lcmp, 1) := by decide +kernel
theorem dL_law_1783 : decode cL_law 1783 = .ok (.ifCond .eq 5, 3) := by decide +kernel
theorem dL_law_1786 : decode cL_law 1786 = .ok (.iconst 0, 1) := by decide +kernel
theorem dL_law_1787 : decode cL_law 1787 = .ok (.ireturn, 1) := by decide +kernel
theorem dL_law_1788 : decode cL_law 1788 = .ok (.goto 828, 3) := by decide +kernel
theorem dL_law_1791 : decode cL_law 1791 = .ok (.aload_n 1, 1) := by decide +kernel
theorem dL_law_1792 : decode cL_law 1792 = .ok (.aload_n 0, 1) := by decide +kernel
theorem dL_law_1793 : decode cL_law 1793 = .ok (.iload 5, 2) := by decide +kernel
theorem dL_law_1795 : decode cL_law 1795 = .ok (.iconst 1, 1) := by decide +kernel
theorem dL_law_1796 : decode cL_law 1796 = .ok (.iadd, 1) := by decide +kernel
theorem dL_law_1797 : decode cL_law 1797 = .ok (.iaload, 1) := by decide +kernel
theorem dL_law_1798 : decode cL_law 1798 = .ok (.aload_n 0, 1) := by decide +kernel
theorem dL_law_1799 : decode cL_law 1799 = .ok (.iload 5, 2) := by decide +kernel
theorem dL_law_1801 : decode cL_law 1801 = .ok (.iconst 2, 1) := by decide +kernel
theorem dL_law_1802 : decode cL_law 1802 = .ok (.iadd, 1) := by decide +kernel
theorem dL_law_1803 : decode cL_law 1803 = .ok (.iaload, 1) := by decide +kernel
theorem dL_law_1804 : decode cL_law 1804 = .ok (.aload_n 3, 1) := by decide +kernel
theorem dL_law_1805 : decode cL_law 1805 = .ok (.invokestatic 249, 3) := by decide +kernel
theorem dL_law_1808 : decode cL_law 1808 = .ok (.istore 6, 2) := by decide +kernel
theorem dL_law_1810 : decode cL_law 1810 = .ok (.aload_n 2, 1) := by decide +kernel
theorem dL_law_1811 : decode cL_law 1811 = .ok (.aload_n 0, 1) := by decide +kernel
theorem dL_law_1812 : decode cL_law 1812 = .ok (.iload 5, 2) := by decide +kernel
theorem dL_law_1814 : decode cL_law 1814 = .ok (.iconst 1, 1) := by decide +kernel
theorem dL_law_1815 : decode cL_law 1815 = .ok (.iadd, 1) := by decide +kernel
theorem dL_law_1816 : decode cL_law 1816 = .ok (.iaload, 1) := by decide +kernel
theorem dL_law_1817 : decode cL_law 1817 = .ok (.aload_n 0, 1) := by decide +kernel
theorem dL_law_1818 : decode cL_law 1818 = .ok (.iload 5, 2) := by decide +kernel
theorem dL_law_1820 : decode cL_law 1820 = .ok (.iconst 2, 1) := by decide +kernel
theorem dL_law_1821 : decode cL_law 1821 = .ok (.iadd, 1) := by decide +kernel
theorem dL_law_1822 : decode cL_law 1822 = .ok (.iaload, 1) := by decide +kernel
theorem dL_law_1823 : decode cL_law 1823 = .ok (.invokevirtual 251, 3) := by decide +kernel
theorem dL_law_1826 : decode cL_law 1826 = .ok (.istore 7, 2) := by decide +kernel
theorem dL_law_1828 : decode cL_law 1828 = .ok (.aload_n 2, 1) := by decide +kernel
theorem dL_law_1829 : decode cL_law 1829 = .ok (.invokevirtual 142, 3) := by decide +kernel
theorem dL_law_1832 : decode cL_law 1832 = .ok (.iload 6, 2) := by decide +kernel
theorem dL_law_1834 : decode cL_law 1834 = .ok (.if_icmp .eq 5, 3) := by decide +kernel
theorem dL_law_1837 : decode cL_law 1837 = .ok (.iconst 0, 1) := by decide +kernel
theorem dL_law_1838 : decode cL_law 1838 = .ok (.ireturn, 1) := by decide +kernel
theorem dL_law_1839 : decode cL_law 1839 = .ok (.iload 6, 2) := by decide +kernel
theorem dL_law_1841 : decode cL_law 1841 = .ok (.ifCond .ne 15, 3) := by decide +kernel
theorem dL_law_1844 : decode cL_law 1844 = .ok (.aload_n 3, 1) := by decide +kernel
theorem dL_law_1845 : decode cL_law 1845 = .ok (.iconst 0, 1) := by decide +kernel
theorem dL_law_1846 : decode cL_law 1846 = .ok (.laload, 1) := by decide +kernel
theorem dL_law_1847 : decode cL_law 1847 = .ok (.iload 7, 2) := by decide +kernel
theorem dL_law_1849 : decode cL_law 1849 = .ok (.i2l, 1) := by decide +kernel
theorem dL_law_1850 : decode cL_law 1850 = .ok (.lcmp, 1) := by decide +kernel
theorem dL_law_1851 : decode cL_law 1851 = .ok (.ifCond .eq 5, 3) := by decide +kernel
theorem dL_law_1854 : decode cL_law 1854 = .ok (.iconst 0, 1) := by decide +kernel
theorem dL_law_1855 : decode cL_law 1855 = .ok (.ireturn, 1) := by decide +kernel
theorem dL_law_1856 : decode cL_law 1856 = .ok (.goto 760, 3) := by decide +kernel
theorem dL_law_1859 : decode cL_law 1859 = .ok (.aload_n 1, 1) := by decide +kernel
theorem dL_law_1860 : decode cL_law 1860 = .ok (.aload_n 0, 1) := by decide +kernel
theorem dL_law_1861 : decode cL_law 1861 = .ok (.iload 5, 2) := by decide +kernel
theorem dL_law_1863 : decode cL_law 1863 = .ok (.iconst 1, 1) := by decide +kernel
theorem dL_law_1864 : decode cL_law 1864 = .ok (.iadd, 1) := by decide +kernel
theorem dL_law_1865 : decode cL_law 1865 = .ok (.iaload, 1) := by decide +kernel
theorem dL_law_1866 : decode cL_law 1866 = .ok (.aload_n 3, 1) := by decide +kernel
theorem dL_law_1867 : decode cL_law 1867 = .ok (.invokestatic 252, 3) := by decide +kernel
theorem dL_law_1870 : decode cL_law 1870 = .ok (.istore 6, 2) := by decide +kernel
theorem dL_law_1872 : decode cL_law 1872 = .ok (.aload_n 2, 1) := by decide +kernel
theorem dL_law_1873 : decode cL_law 1873 = .ok (.aload_n 0, 1) := by decide +kernel
theorem dL_law_1874 : decode cL_law 1874 = .ok (.iload 5, 2) := by decide +kernel
theorem dL_law_1876 : decode cL_law 1876 = .ok (.iconst 1, 1) := by decide +kernel
theorem dL_law_1877 : decode cL_law 1877 = .ok (.iadd, 1) := by decide +kernel
theorem dL_law_1878 : decode cL_law 1878 = .ok (.iaload, 1) := by decide +kernel
theorem dL_law_1879 : decode cL_law 1879 = .ok (.invokevirtual 254, 3) := by decide +kernel
theorem dL_law_1882 : decode cL_law 1882 = .ok (.istore 7, 2) := by decide +kernel
theorem dL_law_1884 : decode cL_law 1884 = .ok (.aload_n 2, 1) := by decide +kernel
theorem dL_law_1885 : decode cL_law 1885 = .ok (.invokevirtual 142, 3) := by decide +kernel
theorem dL_law_1888 : decode cL_law 1888 = .ok (.iload 6, 2) := by decide +kernel
theorem dL_law_1890 : decode cL_law 1890 = .ok (.if_icmp .eq 5, 3) := by decide +kernel
theorem dL_law_1893 : decode cL_law 1893 = .ok (.iconst 0, 1) := by decide +kernel
theorem dL_law_1894 : decode cL_law 1894 = .ok (.ireturn, 1) := by decide +kernel
theorem dL_law_1895 : decode cL_law 1895 = .ok (.iload 6, 2) := by decide +kernel
theorem dL_law_1897 : decode cL_law 1897 = .ok (.ifCond .ne 15, 3) := by decide +kernel
theorem dL_law_1900 : decode cL_law 1900 = .ok (.aload_n 3, 1) := by decide +kernel
theorem dL_law_1901 : decode cL_law 1901 = .ok (.iconst 0, 1) := by decide +kernel
theorem dL_law_1902 : decode cL_law 1902 = .ok (.laload, 1) := by decide +kernel
theorem dL_law_1903 : decode cL_law 1903 = .ok (.iload 7, 2) := by decide +kernel
theorem dL_law_1905 : decode cL_law 1905 = .ok (.i2l, 1) := by decide +kernel
theorem dL_law_1906 : decode cL_law 1906 = .ok (.lcmp, 1) := by decide +kernel
theorem dL_law_1907 : decode cL_law 1907 = .ok (.ifCond .eq 5, 3) := by decide +kernel
theorem dL_law_1910 : decode cL_law 1910 = .ok (.iconst 0, 1) := by decide +kernel
theorem dL_law_1911 : decode cL_law 1911 = .ok (.ireturn, 1) := by decide +kernel
theorem dL_law_1912 : decode cL_law 1912 = .ok (.goto 704, 3) := by decide +kernel
theorem dL_law_1915 : decode cL_law 1915 = .ok (.aload_n 1, 1) := by decide +kernel
theorem dL_law_1916 : decode cL_law 1916 = .ok (.aload_n 0, 1) := by decide +kernel
theorem dL_law_1917 : decode cL_law 1917 = .ok (.iload 5, 2) := by decide +kernel
theorem dL_law_1919 : decode cL_law 1919 = .ok (.iconst 1, 1) := by decide +kernel
theorem dL_law_1920 : decode cL_law 1920 = .ok (.iadd, 1) := by decide +kernel
theorem dL_law_1921 : decode cL_law 1921 = .ok (.iaload, 1) := by decide +kernel
theorem dL_law_1922 : decode cL_law 1922 = .ok (.aload_n 3, 1) := by decide +kernel
theorem dL_law_1923 : decode cL_law 1923 = .ok (.invokestatic 255, 3) := by decide +kernel
theorem dL_law_1926 : decode cL_law 1926 = .ok (.istore 6, 2) := by decide +kernel
theorem dL_law_1928 : decode cL_law 1928 = .ok (.aload_n 2, 1) := by decide +kernel
theorem dL_law_1929 : decode cL_law 1929 = .ok (.aload_n 0, 1) := by decide +kernel
theorem dL_law_1930 : decode cL_law 1930 = .ok (.iload 5, 2) := by decide +kernel
theorem dL_law_1932 : decode cL_law 1932 = .ok (.iconst 1, 1) := by decide +kernel
theorem dL_law_1933 : decode cL_law 1933 = .ok (.iadd, 1) := by decide +kernel
theorem dL_law_1934 : decode cL_law 1934 = .ok (.iaload, 1) := by decide +kernel
theorem dL_law_1935 : decode cL_law 1935 = .ok (.invokevirtual 257, 3) := by decide +kernel
theorem dL_law_1938 : decode cL_law 1938 = .ok (.istore 7, 2) := by decide +kernel
theorem dL_law_1940 : decode cL_law 1940 = .ok (.aload_n 2, 1) := by decide +kernel
theorem dL_law_1941 : decode cL_law 1941 = .ok (.invokevirtual 142, 3) := by decide +kernel
theorem dL_law_1944 : decode cL_law 1944 = .ok (.iload 6, 2) := by decide +kernel
theorem dL_law_1946 : decode cL_law 1946 = .ok (.if_icmp .eq 5, 3) := by decide +kernel
theorem dL_law_1949 : decode cL_law 1949 = .ok (.iconst 0, 1) := by decide +kernel
theorem dL_law_1950 : decode cL_law 1950 = .ok (.ireturn, 1) := by decide +kernel
theorem dL_law_1951 : decode cL_law 1951 = .ok (.iload 6, 2) := by decide +kernel
theorem dL_law_1953 : decode cL_law 1953 = .ok (.ifCond .ne 15, 3) := by decide +kernel
theorem dL_law_1956 : decode cL_law 1956 = .ok (.aload_n 3, 1) := by decide +kernel
theorem dL_law_1957 : decode cL_law 1957 = .ok (.iconst 0, 1) := by decide +kernel
theorem dL_law_1958 : decode cL_law 1958 = .ok (.laload, 1) := by decide +kernel
theorem dL_law_1959 : decode cL_law 1959 = .ok (.iload 7, 2) := by decide +kernel
theorem dL_law_1961 : decode cL_law 1961 = .ok (.i2l, 1) := by decide +kernel
theorem dL_law_1962 : decode cL_law 1962 = .ok (.lcmp, 1) := by decide +kernel
theorem dL_law_1963 : decode cL_law 1963 = .ok (.ifCond .eq 5, 3) := by decide +kernel
theorem dL_law_1966 : decode cL_law 1966 = .ok (.iconst 0, 1) := by decide +kernel
theorem dL_law_1967 : decode cL_law 1967 = .ok (.ireturn, 1) := by decide +kernel
theorem dL_law_1968 : decode cL_law 1968 = .ok (.goto 648, 3) := by decide +kernel
theorem dL_law_1971 : decode cL_law 1971 = .ok (.aload_n 1, 1) := by decide +kernel
theorem dL_law_1972 : decode cL_law 1972 = .ok (.aload_n 0, 1) := by decide +kernel
theorem dL_law_1973 : decode cL_law 1973 = .ok (.iload 5, 2) := by decide +kernel
theorem dL_law_1975 : decode cL_law 1975 = .ok (.iconst 1, 1) := by decide +kernel
theorem dL_law_1976 : decode cL_law 1976 = .ok (.iadd, 1) := by decide +kernel
theorem dL_law_1977 : decode cL_law 1977 = .ok (.iaload, 1) := by decide +kernel
theorem dL_law_1978 : decode cL_law 1978 = .ok (.aload_n 0, 1) := by decide +kernel
theorem dL_law_1979 : decode cL_law 1979 = .ok (.iload 5, 2) := by decide +kernel
theorem dL_law_1981 : decode cL_law 1981 = .ok (.iconst 2, 1) := by decide +kernel
theorem dL_law_1982 : decode cL_law 1982 = .ok (.iadd, 1) := by decide +kernel
theorem dL_law_1983 : decode cL_law 1983 = .ok (.iaload, 1) := by decide +kernel
theorem dL_law_1984 : decode cL_law 1984 = .ok (.aload_n 3, 1) := by decide +kernel
theorem dL_law_1985 : decode cL_law 1985 = .ok (.invokestatic 258, 3) := by decide +kernel
theorem dL_law_1988 : decode cL_law 1988 = .ok (.istore 6, 2) := by decide +kernel
theorem dL_law_1990 : decode cL_law 1990 = .ok (.aload_n 2, 1) := by decide +kernel
theorem dL_law_1991 : decode cL_law 1991 = .ok (.aload_n 0, 1) := by decide +kernel
theorem dL_law_1992 : decode cL_law 1992 = .ok (.iload 5, 2) := by decide +kernel
theorem dL_law_1994 : decode cL_law 1994 = .ok (.iconst 1, 1) := by decide +kernel
theorem dL_law_1995 : decode cL_law 1995 = .ok (.iadd, 1) := by decide +kernel
theorem dL_law_1996 : decode cL_law 1996 = .ok (.iaload, 1) := by decide +kernel
theorem dL_law_1997 : decode cL_law 1997 = .ok (.aload_n 0, 1) := by decide +kernel
theorem dL_law_1998 : decode cL_law 1998 = .ok (.iload 5, 2) := by decide +kernel
theorem dL_law_2000 : decode cL_law 2000 = .ok (.iconst 2, 1) := by decide +kernel
theorem dL_law_2001 : decode cL_law 2001 = .ok (.iadd, 1) := by decide +kernel
theorem dL_law_2002 : decode cL_law 2002 = .ok (.iaload, 1) := by decide +kernel
theorem dL_law_2003 : decode cL_law 2003 = .ok (.invokevirtual 260, 3) := by decide +kernel
theorem dL_law_2006 : decode cL_law 2006 = .ok (.istore 7, 2) := by decide +kernel
theorem dL_law_2008 : decode cL_law 2008 = .ok (.aload_n 2, 1) := by decide +kernel
theorem dL_law_2009 : decode cL_law 2009 = .ok (.invokevirtual 142, 3) := by decide +kernel
theorem dL_law_2012 : decode cL_law 2012 = .ok (.iload 6, 2) := by decide +kernel
theorem dL_law_2014 : decode cL_law 2014 = .ok (.if_icmp .eq 5, 3) := by decide +kernel
theorem dL_law_2017 : decode cL_law 2017 = .ok (.iconst 0, 1) := by decide +kernel
theorem dL_law_2018 : decode cL_law 2018 = .ok (.ireturn, 1) := by decide +kernel
theorem dL_law_2019 : decode cL_law 2019 = .ok (.iload 6, 2) := by decide +kernel
theorem dL_law_2021 : decode cL_law 2021 = .ok (.ifCond .ne 15, 3) := by decide +kernel
theorem dL_law_2024 : decode cL_law 2024 = .ok (.aload_n 3, 1) := by decide +kernel
theorem dL_law_2025 : decode cL_law 2025 = .ok (.iconst 0, 1) := by decide +kernel
theorem dL_law_2026 : decode cL_law 2026 = .ok (.laload, 1) := by decide +kernel
theorem dL_law_2027 : decode cL_law 2027 = .ok (.iload 7, 2) := by decide +kernel
theorem dL_law_2029 : decode cL_law 2029 = .ok (.i2l, 1) := by decide +kernel
theorem dL_law_2030 : decode cL_law 2030 = .ok (.lcmp, 1) := by decide +kernel
theorem dL_law_2031 : decode cL_law 2031 = .ok (.ifCond .eq 5, 3) := by decide +kernel
theorem dL_law_2034 : decode cL_law 2034 = .ok (.iconst 0, 1) := by decide +kernel
theorem dL_law_2035 : decode cL_law 2035 = .ok (.ireturn, 1) := by decide +kernel
theorem dL_law_2036 : decode cL_law 2036 = .ok (.goto 580, 3) := by decide +kernel
theorem dL_law_2039 : decode cL_law 2039 = .ok (.aload_n 1, 1) := by decide +kernel
theorem dL_law_2040 : decode cL_law 2040 = .ok (.aload_n 0, 1) := by decide +kernel
theorem dL_law_2041 : decode cL_law 2041 = .ok (.iload 5, 2) := by decide +kernel
theorem dL_law_2043 : decode cL_law 2043 = .ok (.iconst 1, 1) := by decide +kernel
theorem dL_law_2044 : decode cL_law 2044 = .ok (.iadd, 1) := by decide +kernel
theorem dL_law_2045 : decode cL_law 2045 = .ok (.iaload, 1) := by decide +kernel
theorem dL_law_2046 : decode cL_law 2046 = .ok (.aload_n 0, 1) := by decide +kernel
theorem dL_law_2047 : decode cL_law 2047 = .ok (.iload 5, 2) := by decide +kernel
theorem dL_law_2049 : decode cL_law 2049 = .ok (.iconst 2, 1) := by decide +kernel
theorem dL_law_2050 : decode cL_law 2050 = .ok (.iadd, 1) := by decide +kernel
theorem dL_law_2051 : decode cL_law 2051 = .ok (.iaload, 1) := by decide +kernel
theorem dL_law_2052 : decode cL_law 2052 = .ok (.aload_n 3, 1) := by decide +kernel
theorem dL_law_2053 : decode cL_law 2053 = .ok (.invokestatic 261, 3) := by decide +kernel
theorem dL_law_2056 : decode cL_law 2056 = .ok (.istore 6, 2) := by decide +kernel
theorem dL_law_2058 : decode cL_law 2058 = .ok (.aload_n 2, 1) := by decide +kernel
theorem dL_law_2059 : decode cL_law 2059 = .ok (.aload_n 0, 1) := by decide +kernel
theorem dL_law_2060 : decode cL_law 2060 = .ok (.iload 5, 2) := by decide +kernel
theorem dL_law_2062 : decode cL_law 2062 = .ok (.iconst 1, 1) := by decide +kernel
theorem dL_law_2063 : decode cL_law 2063 = .ok (.iadd, 1) := by decide +kernel
theorem dL_law_2064 : decode cL_law 2064 = .ok (.iaload, 1) := by decide +kernel
theorem dL_law_2065 : decode cL_law 2065 = .ok (.aload_n 0, 1) := by decide +kernel
theorem dL_law_2066 : decode cL_law 2066 = .ok (.iload 5, 2) := by decide +kernel
theorem dL_law_2068 : decode cL_law 2068 = .ok (.iconst 2, 1) := by decide +kernel
theorem dL_law_2069 : decode cL_law 2069 = .ok (.iadd, 1) := by decide +kernel
theorem dL_law_2070 : decode cL_law 2070 = .ok (.iaload, 1) := by decide +kernel
theorem dL_law_2071 : decode cL_law 2071 = .ok (.invokevirtual 263, 3) := by decide +kernel
theorem dL_law_2074 : decode cL_law 2074 = .ok (.istore 7, 2) := by decide +kernel
theorem dL_law_2076 : decode cL_law 2076 = .ok (.aload_n 2, 1) := by decide +kernel
theorem dL_law_2077 : decode cL_law 2077 = .ok (.invokevirtual 142, 3) := by decide +kernel
theorem dL_law_2080 : decode cL_law 2080 = .ok (.iload 6, 2) := by decide +kernel
theorem dL_law_2082 : decode cL_law 2082 = .ok (.if_icmp .eq 5, 3) := by decide +kernel
theorem dL_law_2085 : decode cL_law 2085 = .ok (.iconst 0, 1) := by decide +kernel
theorem dL_law_2086 : decode cL_law 2086 = .ok (.ireturn, 1) := by decide +kernel
theorem dL_law_2087 : decode cL_law 2087 = .ok (.iload 6, 2) := by decide +kernel
theorem dL_law_2089 : decode cL_law 2089 = .ok (.ifCond .ne 15, 3) := by decide +kernel
theorem dL_law_2092 : decode cL_law 2092 = .ok (.aload_n 3, 1) := by decide +kernel
theorem dL_law_2093 : decode cL_law 2093 = .ok (.iconst 0, 1) := by decide +kernel
theorem dL_law_2094 : decode cL_law 2094 = .ok (.laload, 1) := by decide +kernel
theorem dL_law_2095 : decode cL_law 2095 = .ok (.iload 7, 2) := by decide +kernel
theorem dL_law_2097 : decode cL_law 2097 = .ok (.i2l, 1) := by decide +kernel
theorem dL_law_2098 : decode cL_law 2098 = .ok (.lcmp, 1) := by decide +kernel
theorem dL_law_2099 : decode cL_law 2099 = .ok (.ifCond .eq 5, 3) := by decide +kernel
theorem dL_law_2102 : decode cL_law 2102 = .ok (.iconst 0, 1) := by decide +kernel
theorem dL_law_2103 : decode cL_law 2103 = .ok (.ireturn, 1) := by decide +kernel
theorem dL_law_2104 : decode cL_law 2104 = .ok (.goto 512, 3) := by decide +kernel
theorem dL_law_2107 : decode cL_law 2107 = .ok (.aload_n 1, 1) := by decide +kernel
theorem dL_law_2108 : decode cL_law 2108 = .ok (.aload_n 0, 1) := by decide +kernel
theorem dL_law_2109 : decode cL_law 2109 = .ok (.iload 5, 2) := by decide +kernel
theorem dL_law_2111 : decode cL_law 2111 = .ok (.iconst 1, 1) := by decide +kernel
theorem dL_law_2112 : decode cL_law 2112 = .ok (.iadd, 1) := by decide +kernel
theorem dL_law_2113 : decode cL_law 2113 = .ok (.iaload, 1) := by decide +kernel
theorem dL_law_2114 : decode cL_law 2114 = .ok (.aload_n 0, 1) := by decide +kernel
theorem dL_law_2115 : decode cL_law 2115 = .ok (.iload 5, 2) := by decide +kernel
theorem dL_law_2117 : decode cL_law 2117 = .ok (.iconst 2, 1) := by decide +kernel
theorem dL_law_2118 : decode cL_law 2118 = .ok (.iadd, 1) := by decide +kernel
theorem dL_law_2119 : decode cL_law 2119 = .ok (.iaload, 1) := by decide +kernel
theorem dL_law_2120 : decode cL_law 2120 = .ok (.aload_n 3, 1) := by decide +kernel
theorem dL_law_2121 : decode cL_law 2121 = .ok (.invokestatic 264, 3) := by decide +kernel
theorem dL_law_2124 : decode cL_law 2124 = .ok (.istore 6, 2) := by decide +kernel
theorem dL_law_2126 : decode cL_law 2126 = .ok (.aload_n 2, 1) := by decide +kernel
theorem dL_law_2127 : decode cL_law 2127 = .ok (.aload_n 0, 1) := by decide +kernel
theorem dL_law_2128 : decode cL_law 2128 = .ok (.iload 5, 2) := by decide +kernel
theorem dL_law_2130 : decode cL_law 2130 = .ok (.iconst 1, 1) := by decide +kernel
theorem dL_law_2131 : decode cL_law 2131 = .ok (.iadd, 1) := by decide +kernel
theorem dL_law_2132 : decode cL_law 2132 = .ok (.iaload, 1) := by decide +kernel
theorem dL_law_2133 : decode cL_law 2133 = .ok (.aload_n 0, 1) := by decide +kernel
theorem dL_law_2134 : decode cL_law 2134 = .ok (.iload 5, 2) := by decide +kernel
theorem dL_law_2136 : decode cL_law 2136 = .ok (.iconst 2, 1) := by decide +kernel
theorem dL_law_2137 : decode cL_law 2137 = .ok (.iadd, 1) := by decide +kernel
theorem dL_law_2138 : decode cL_law 2138 = .ok (.iaload, 1) := by decide +kernel
theorem dL_law_2139 : decode cL_law 2139 = .ok (.invokevirtual 266, 3) := by decide +kernel
theorem dL_law_2142 : decode cL_law 2142 = .ok (.istore 7, 2) := by decide +kernel
theorem dL_law_2144 : decode cL_law 2144 = .ok (.aload_n 2, 1) := by decide +kernel
theorem dL_law_2145 : decode cL_law 2145 = .ok (.invokevirtual 142, 3) := by decide +kernel
theorem dL_law_2148 : decode cL_law 2148 = .ok (.iload 6, 2) := by decide +kernel
theorem dL_law_2150 : decode cL_law 2150 = .ok (.if_icmp .eq 5, 3) := by decide +kernel
theorem dL_law_2153 : decode cL_law 2153 = .ok (.iconst 0, 1) := by decide +kernel
theorem dL_law_2154 : decode cL_law 2154 = .ok (.ireturn, 1) := by decide +kernel
theorem dL_law_2155 : decode cL_law 2155 = .ok (.iload 6, 2) := by decide +kernel
theorem dL_law_2157 : decode cL_law 2157 = .ok (.ifCond .ne 15, 3) := by decide +kernel
theorem dL_law_2160 : decode cL_law 2160 = .ok (.aload_n 3, 1) := by decide +kernel
theorem dL_law_2161 : decode cL_law 2161 = .ok (.iconst 0, 1) := by decide +kernel
theorem dL_law_2162 : decode cL_law 2162 = .ok (.laload, 1) := by decide +kernel
theorem dL_law_2163 : decode cL_law 2163 = .ok (.iload 7, 2) := by decide +kernel
theorem dL_law_2165 : decode cL_law 2165 = .ok (.i2l, 1) := by decide +kernel
theorem dL_law_2166 : decode cL_law 2166 = .ok (.lcmp, 1) := by decide +kernel
theorem dL_law_2167 : decode cL_law 2167 = .ok (.ifCond .eq 5, 3) := by decide +kernel
theorem dL_law_2170 : decode cL_law 2170 = .ok (.iconst 0, 1) := by decide +kernel
theorem dL_law_2171 : decode cL_law 2171 = .ok (.ireturn, 1) := by decide +kernel
theorem dL_law_2172 : decode cL_law 2172 = .ok (.goto 444, 3) := by decide +kernel
theorem dL_law_2175 : decode cL_law 2175 = .ok (.aload_n 1, 1) := by decide +kernel
theorem dL_law_2176 : decode cL_law 2176 = .ok (.aload_n 0, 1) := by decide +kernel
theorem dL_law_2177 : decode cL_law 2177 = .ok (.iload 5, 2) := by decide +kernel
theorem dL_law_2179 : decode cL_law 2179 = .ok (.iconst 1, 1) := by decide +kernel
theorem dL_law_2180 : decode cL_law 2180 = .ok (.iadd, 1) := by decide +kernel
theorem dL_law_2181 : decode cL_law 2181 = .ok (.iaload, 1) := by decide +kernel
theorem dL_law_2182 : decode cL_law 2182 = .ok (.aload_n 0, 1) := by decide +kernel
theorem dL_law_2183 : decode cL_law 2183 = .ok (.iload 5, 2) := by decide +kernel
theorem dL_law_2185 : decode cL_law 2185 = .ok (.iconst 2, 1) := by decide +kernel
theorem dL_law_2186 : decode cL_law 2186 = .ok (.iadd, 1) := by decide +kernel
theorem dL_law_2187 : decode cL_law 2187 = .ok (.iaload, 1) := by decide +kernel
theorem dL_law_2188 : decode cL_law 2188 = .ok (.aload_n 0, 1) := by decide +kernel
theorem dL_law_2189 : decode cL_law 2189 = .ok (.iload 5, 2) := by decide +kernel
theorem dL_law_2191 : decode cL_law 2191 = .ok (.iconst 3, 1) := by decide +kernel
theorem dL_law_2192 : decode cL_law 2192 = .ok (.iadd, 1) := by decide +kernel
theorem dL_law_2193 : decode cL_law 2193 = .ok (.iaload, 1) := by decide +kernel
theorem dL_law_2194 : decode cL_law 2194 = .ok (.aload_n 3, 1) := by decide +kernel
theorem dL_law_2195 : decode cL_law 2195 = .ok (.invokestatic 267, 3) := by decide +kernel
theorem dL_law_2198 : decode cL_law 2198 = .ok (.istore 6, 2) := by decide +kernel
theorem dL_law_2200 : decode cL_law 2200 = .ok (.aload_n 2, 1) := by decide +kernel
theorem dL_law_2201 : decode cL_law 2201 = .ok (.aload_n 0, 1) := by decide +kernel
theorem dL_law_2202 : decode cL_law 2202 = .ok (.iload 5, 2) := by decide +kernel
theorem dL_law_2204 : decode cL_law 2204 = .ok (.iconst 1, 1) := by decide +kernel
theorem dL_law_2205 : decode cL_law 2205 = .ok (.iadd, 1) := by decide +kernel
theorem dL_law_2206 : decode cL_law 2206 = .ok (.iaload, 1) := by decide +kernel
theorem dL_law_2207 : decode cL_law 2207 = .ok (.aload_n 0, 1) := by decide +kernel
theorem dL_law_2208 : decode cL_law 2208 = .ok (.iload 5, 2) := by decide +kernel
theorem dL_law_2210 : decode cL_law 2210 = .ok (.iconst 2, 1) := by decide +kernel
theorem dL_law_2211 : decode cL_law 2211 = .ok (.iadd, 1) := by decide +kernel
theorem dL_law_2212 : decode cL_law 2212 = .ok (.iaload, 1) := by decide +kernel
theorem dL_law_2213 : decode cL_law 2213 = .ok (.aload_n 0, 1) := by decide +kernel
theorem dL_law_2214 : decode cL_law 2214 = .ok (.iload 5, 2) := by decide +kernel
theorem dL_law_2216 : decode cL_law 2216 = .ok (.iconst 3, 1) := by decide +kernel
theorem dL_law_2217 : decode cL_law 2217 = .ok (.iadd, 1) := by decide +kernel
theorem dL_law_2218 : decode cL_law 2218 = .ok (.iaload, 1) := by decide +kernel
theorem dL_law_2219 : decode cL_law 2219 = .ok (.invokevirtual 269, 3) := by decide +kernel
theorem dL_law_2222 : decode cL_law 2222 = .ok (.istore 7, 2) := by decide +kernel
theorem dL_law_2224 : decode cL_law 2224 = .ok (.aload_n 2, 1) := by decide +kernel
theorem dL_law_2225 : decode cL_law 2225 = .ok (.invokevirtual 142, 3) := by decide +kernel
theorem dL_law_2228 : decode cL_law 2228 = .ok (.iload 6, 2) := by decide +kernel
theorem dL_law_2230 : decode cL_law 2230 = .ok (.if_icmp .eq 5, 3) := by decide +kernel
theorem dL_law_2233 : decode cL_law 2233 = .ok (.iconst 0, 1) := by decide +kernel
theorem dL_law_2234 : decode cL_law 2234 = .ok (.ireturn, 1) := by decide +kernel
theorem dL_law_2235 : decode cL_law 2235 = .ok (.iload 6, 2) := by decide +kernel
theorem dL_law_2237 : decode cL_law 2237 = .ok (.ifCond .ne 15, 3) := by decide +kernel
theorem dL_law_2240 : decode cL_law 2240 = .ok (.aload_n 3, 1) := by decide +kernel
theorem dL_law_2241 : decode cL_law 2241 = .ok (.iconst 0, 1) := by decide +kernel
theorem dL_law_2242 : decode cL_law 2242 = .ok (.laload, 1) := by decide +kernel
theorem dL_law_2243 : decode cL_law 2243 = .ok (.iload 7, 2) := by decide +kernel
theorem dL_law_2245 : decode cL_law 2245 = .ok (.i2l, 1) := by decide +kernel
theorem dL_law_2246 : decode cL_law 2246 = .ok (.lcmp, 1) := by decide +kernel
theorem dL_law_2247 : decode cL_law 2247 = .ok (.ifCond .eq 5, 3) := by decide +kernel
theorem dL_law_2250 : decode cL_law 2250 = .ok (.iconst 0, 1) := by decide +kernel
theorem dL_law_2251 : decode cL_law 2251 = .ok (.ireturn, 1) := by decide +kernel
theorem dL_law_2252 : decode cL_law 2252 = .ok (.goto 364, 3) := by decide +kernel
theorem dL_law_2255 : decode cL_law 2255 = .ok (.aload_n 1, 1) := by decide +kernel
theorem dL_law_2256 : decode cL_law 2256 = .ok (.aload_n 0, 1) := by decide +kernel
theorem dL_law_2257 : decode cL_law 2257 = .ok (.iload 5, 2) := by decide +kernel
theorem dL_law_2259 : decode cL_law 2259 = .ok (.iconst 1, 1) := by decide +kernel
theorem dL_law_2260 : decode cL_law 2260 = .ok (.iadd, 1) := by decide +kernel
theorem dL_law_2261 : decode cL_law 2261 = .ok (.iaload, 1) := by decide +kernel
theorem dL_law_2262 : decode cL_law 2262 = .ok (.aload_n 0, 1) := by decide +kernel
theorem dL_law_2263 : decode cL_law 2263 = .ok (.iload 5, 2) := by decide +kernel
theorem dL_law_2265 : decode cL_law 2265 = .ok (.iconst 2, 1) := by decide +kernel
theorem dL_law_2266 : decode cL_law 2266 = .ok (.iadd, 1) := by decide +kernel
theorem dL_law_2267 : decode cL_law 2267 = .ok (.iaload, 1) := by decide +kernel
theorem dL_law_2268 : decode cL_law 2268 = .ok (.aload_n 3, 1) := by decide +kernel
theorem dL_law_2269 : decode cL_law 2269 = .ok (.invokestatic 270, 3) := by decide +kernel
theorem dL_law_2272 : decode cL_law 2272 = .ok (.istore 6, 2) := by decide +kernel
theorem dL_law_2274 : decode cL_law 2274 = .ok (.aload_n 2, 1) := by decide +kernel
theorem dL_law_2275 : decode cL_law 2275 = .ok (.aload_n 0, 1) := by decide +kernel
theorem dL_law_2276 : decode cL_law 2276 = .ok (.iload 5, 2) := by decide +kernel
theorem dL_law_2278 : decode cL_law 2278 = .ok (.iconst 1, 1) := by decide +kernel
theorem dL_law_2279 : decode cL_law 2279 = .ok (.iadd, 1) := by decide +kernel
theorem dL_law_2280 : decode cL_law 2280 = .ok (.iaload, 1) := by decide +kernel
theorem dL_law_2281 : decode cL_law 2281 = .ok (.aload_n 0, 1) := by decide +kernel
theorem dL_law_2282 : decode cL_law 2282 = .ok (.iload 5, 2) := by decide +kernel
theorem dL_law_2284 : decode cL_law 2284 = .ok (.iconst 2, 1) := by decide +kernel
theorem dL_law_2285 : decode cL_law 2285 = .ok (.iadd, 1) := by decide +kernel
theorem dL_law_2286 : decode cL_law 2286 = .ok (.iaload, 1) := by decide +kernel
theorem dL_law_2287 : decode cL_law 2287 = .ok (.invokevirtual 272, 3) := by decide +kernel
theorem dL_law_2290 : decode cL_law 2290 = .ok (.lstore 7, 2) := by decide +kernel
theorem dL_law_2292 : decode cL_law 2292 = .ok (.aload_n 2, 1) := by decide +kernel
theorem dL_law_2293 : decode cL_law 2293 = .ok (.invokevirtual 142, 3) := by decide +kernel
theorem dL_law_2296 : decode cL_law 2296 = .ok (.iload 6, 2) := by decide +kernel
theorem dL_law_2298 : decode cL_law 2298 = .ok (.if_icmp .eq 5, 3) := by decide +kernel
theorem dL_law_2301 : decode cL_law 2301 = .ok (.iconst 0, 1) := by decide +kernel
theorem dL_law_2302 : decode cL_law 2302 = .ok (.ireturn, 1) := by decide +kernel
theorem dL_law_2303 : decode cL_law 2303 = .ok (.iload 6, 2) := by decide +kernel
theorem dL_law_2305 : decode cL_law 2305 = .ok (.ifCond .ne 14, 3) := by decide +kernel
theorem dL_law_2308 : decode cL_law 2308 = .ok (.aload_n 3, 1) := by decide +kernel
theorem dL_law_2309 : decode cL_law 2309 = .ok (.iconst 0, 1) := by decide +kernel
theorem dL_law_2310 : decode cL_law 2310 = .ok (.laload, 1) := by decide +kernel
theorem dL_law_2311 : decode cL_law 2311 = .ok (.lload 7, 2) := by decide +kernel
theorem dL_law_2313 : decode cL_law 2313 = .ok (.lcmp, 1) := by decide +kernel
theorem dL_law_2314 : decode cL_law 2314 = .ok (.ifCond .eq 5, 3) := by decide +kernel
theorem dL_law_2317 : decode cL_law 2317 = .ok (.iconst 0, 1) := by decide +kernel
theorem dL_law_2318 : decode cL_law 2318 = .ok (.ireturn, 1) := by decide +kernel
theorem dL_law_2319 : decode cL_law 2319 = .ok (.goto 297, 3) := by decide +kernel
theorem dL_law_2322 : decode cL_law 2322 = .ok (.aload_n 1, 1) := by decide +kernel
theorem dL_law_2323 : decode cL_law 2323 = .ok (.aload_n 0, 1) := by decide +kernel
theorem dL_law_2324 : decode cL_law 2324 = .ok (.iload 5, 2) := by decide +kernel
theorem dL_law_2326 : decode cL_law 2326 = .ok (.iconst 1, 1) := by decide +kernel
theorem dL_law_2327 : decode cL_law 2327 = .ok (.iadd, 1) := by decide +kernel
theorem dL_law_2328 : decode cL_law 2328 = .ok (.iaload, 1) := by decide +kernel
theorem dL_law_2329 : decode cL_law 2329 = .ok (.aload_n 0, 1) := by decide +kernel
theorem dL_law_2330 : decode cL_law 2330 = .ok (.iload 5, 2) := by decide +kernel
theorem dL_law_2332 : decode cL_law 2332 = .ok (.iconst 2, 1) := by decide +kernel
theorem dL_law_2333 : decode cL_law 2333 = .ok (.iadd, 1) := by decide +kernel
theorem dL_law_2334 : decode cL_law 2334 = .ok (.iaload, 1) := by decide +kernel
theorem dL_law_2335 : decode cL_law 2335 = .ok (.aload_n 3, 1) := by decide +kernel
theorem dL_law_2336 : decode cL_law 2336 = .ok (.invokestatic 273, 3) := by decide +kernel
theorem dL_law_2339 : decode cL_law 2339 = .ok (.istore 6, 2) := by decide +kernel
theorem dL_law_2341 : decode cL_law 2341 = .ok (.aload_n 2, 1) := by decide +kernel
theorem dL_law_2342 : decode cL_law 2342 = .ok (.aload_n 0, 1) := by decide +kernel
theorem dL_law_2343 : decode cL_law 2343 = .ok (.iload 5, 2) := by decide +kernel
theorem dL_law_2345 : decode cL_law 2345 = .ok (.iconst 1, 1) := by decide +kernel
theorem dL_law_2346 : decode cL_law 2346 = .ok (.iadd, 1) := by decide +kernel
theorem dL_law_2347 : decode cL_law 2347 = .ok (.iaload, 1) := by decide +kernel
theorem dL_law_2348 : decode cL_law 2348 = .ok (.aload_n 0, 1) := by decide +kernel
theorem dL_law_2349 : decode cL_law 2349 = .ok (.iload 5, 2) := by decide +kernel
theorem dL_law_2351 : decode cL_law 2351 = .ok (.iconst 2, 1) := by decide +kernel
theorem dL_law_2352 : decode cL_law 2352 = .ok (.iadd, 1) := by decide +kernel
theorem dL_law_2353 : decode cL_law 2353 = .ok (.iaload, 1) := by decide +kernel
theorem dL_law_2354 : decode cL_law 2354 = .ok (.invokevirtual 275, 3) := by decide +kernel
theorem dL_law_2357 : decode cL_law 2357 = .ok (.lstore 7, 2) := by decide +kernel
theorem dL_law_2359 : decode cL_law 2359 = .ok (.aload_n 2, 1) := by decide +kernel
theorem dL_law_2360 : decode cL_law 2360 = .ok (.invokevirtual 142, 3) := by decide +kernel
theorem dL_law_2363 : decode cL_law 2363 = .ok (.iload 6, 2) := by decide +kernel
theorem dL_law_2365 : decode cL_law 2365 = .ok (.if_icmp .eq 5, 3) := by decide +kernel
theorem dL_law_2368 : decode cL_law 2368 = .ok (.iconst 0, 1) := by decide +kernel
theorem dL_law_2369 : decode cL_law 2369 = .ok (.ireturn, 1) := by decide +kernel
theorem dL_law_2370 : decode cL_law 2370 = .ok (.iload 6, 2) := by decide +kernel
theorem dL_law_2372 : decode cL_law 2372 = .ok (.ifCond .ne 14, 3) := by decide +kernel
theorem dL_law_2375 : decode cL_law 2375 = .ok (.aload_n 3, 1) := by decide +kernel
theorem dL_law_2376 : decode cL_law 2376 = .ok (.iconst 0, 1) := by decide +kernel
theorem dL_law_2377 : decode cL_law 2377 = .ok (.laload, 1) := by decide +kernel
theorem dL_law_2378 : decode cL_law 2378 = .ok (.lload 7, 2) := by decide +kernel
theorem dL_law_2380 : decode cL_law 2380 = .ok (.lcmp, 1) := by decide +kernel
theorem dL_law_2381 : decode cL_law 2381 = .ok (.ifCond .eq 5, 3) := by decide +kernel
theorem dL_law_2384 : decode cL_law 2384 = .ok (.iconst 0, 1) := by decide +kernel
theorem dL_law_2385 : decode cL_law 2385 = .ok (.ireturn, 1) := by decide +kernel
theorem dL_law_2386 : decode cL_law 2386 = .ok (.goto 230, 3) := by decide +kernel
theorem dL_law_2389 : decode cL_law 2389 = .ok (.aload_n 1, 1) := by decide +kernel
theorem dL_law_2390 : decode cL_law 2390 = .ok (.aload_n 0, 1) := by decide +kernel
theorem dL_law_2391 : decode cL_law 2391 = .ok (.iload 5, 2) := by decide +kernel
theorem dL_law_2393 : decode cL_law 2393 = .ok (.iconst 1, 1) := by decide +kernel
theorem dL_law_2394 : decode cL_law 2394 = .ok (.iadd, 1) := by decide +kernel
theorem dL_law_2395 : decode cL_law 2395 = .ok (.iaload, 1) := by decide +kernel
theorem dL_law_2396 : decode cL_law 2396 = .ok (.aload_n 0, 1) := by decide +kernel
theorem dL_law_2397 : decode cL_law 2397 = .ok (.iload 5, 2) := by decide +kernel
theorem dL_law_2399 : decode cL_law 2399 = .ok (.iconst 2, 1) := by decide +kernel
theorem dL_law_2400 : decode cL_law 2400 = .ok (.iadd, 1) := by decide +kernel
theorem dL_law_2401 : decode cL_law 2401 = .ok (.iaload, 1) := by decide +kernel
theorem dL_law_2402 : decode cL_law 2402 = .ok (.aload_n 3, 1) := by decide +kernel
theorem dL_law_2403 : decode cL_law 2403 = .ok (.invokestatic 276, 3) := by decide +kernel
theorem dL_law_2406 : decode cL_law 2406 = .ok (.istore 6, 2) := by decide +kernel
theorem dL_law_2408 : decode cL_law 2408 = .ok (.aload_n 2, 1) := by decide +kernel
theorem dL_law_2409 : decode cL_law 2409 = .ok (.aload_n 0, 1) := by decide +kernel
theorem dL_law_2410 : decode cL_law 2410 = .ok (.iload 5, 2) := by decide +kernel
theorem dL_law_2412 : decode cL_law 2412 = .ok (.iconst 1, 1) := by decide +kernel
theorem dL_law_2413 : decode cL_law 2413 = .ok (.iadd, 1) := by decide +kernel
theorem dL_law_2414 : decode cL_law 2414 = .ok (.iaload, 1) := by decide +kernel
theorem dL_law_2415 : decode cL_law 2415 = .ok (.aload_n 0, 1) := by decide +kernel
theorem dL_law_2416 : decode cL_law 2416 = .ok (.iload 5, 2) := by decide +kernel
theorem dL_law_2418 : decode cL_law 2418 = .ok (.iconst 2, 1) := by decide +kernel
theorem dL_law_2419 : decode cL_law 2419 = .ok (.iadd, 1) := by decide +kernel
theorem dL_law_2420 : decode cL_law 2420 = .ok (.iaload, 1) := by decide +kernel
theorem dL_law_2421 : decode cL_law 2421 = .ok (.invokevirtual 278, 3) := by decide +kernel
theorem dL_law_2424 : decode cL_law 2424 = .ok (.istore 7, 2) := by decide +kernel
theorem dL_law_2426 : decode cL_law 2426 = .ok (.aload_n 2, 1) := by decide +kernel
theorem dL_law_2427 : decode cL_law 2427 = .ok (.invokevirtual 142, 3) := by decide +kernel
theorem dL_law_2430 : decode cL_law 2430 = .ok (.iload 6, 2) := by decide +kernel
theorem dL_law_2432 : decode cL_law 2432 = .ok (.if_icmp .eq 5, 3) := by decide +kernel
theorem dL_law_2435 : decode cL_law 2435 = .ok (.iconst 0, 1) := by decide +kernel
theorem dL_law_2436 : decode cL_law 2436 = .ok (.ireturn, 1) := by decide +kernel
theorem dL_law_2437 : decode cL_law 2437 = .ok (.iload 6, 2) := by decide +kernel
theorem dL_law_2439 : decode cL_law 2439 = .ok (.ifCond .ne 15, 3) := by decide +kernel
theorem dL_law_2442 : decode cL_law 2442 = .ok (.aload_n 3, 1) := by decide +kernel
theorem dL_law_2443 : decode cL_law 2443 = .ok (.iconst 0, 1) := by decide +kernel
theorem dL_law_2444 : decode cL_law 2444 = .ok (.laload, 1) := by decide +kernel
theorem dL_law_2445 : decode cL_law 2445 = .ok (.iload 7, 2) := by decide +kernel
theorem dL_law_2447 : decode cL_law 2447 = .ok (.i2l, 1) := by decide +kernel
theorem dL_law_2448 : decode cL_law 2448 = .ok (.lcmp, 1) := by decide +kernel
theorem dL_law_2449 : decode cL_law 2449 = .ok (.ifCond .eq 5, 3) := by decide +kernel
theorem dL_law_2452 : decode cL_law 2452 = .ok (.iconst 0, 1) := by decide +kernel
theorem dL_law_2453 : decode cL_law 2453 = .ok (.ireturn, 1) := by decide +kernel
theorem dL_law_2454 : decode cL_law 2454 = .ok (.goto 162, 3) := by decide +kernel
theorem dL_law_2457 : decode cL_law 2457 = .ok (.aload_n 1, 1) := by decide +kernel
theorem dL_law_2458 : decode cL_law 2458 = .ok (.aload_n 0, 1) := by decide +kernel
theorem dL_law_2459 : decode cL_law 2459 = .ok (.iload 5, 2) := by decide +kernel
theorem dL_law_2461 : decode cL_law 2461 = .ok (.iconst 1, 1) := by decide +kernel
theorem dL_law_2462 : decode cL_law 2462 = .ok (.iadd, 1) := by decide +kernel
theorem dL_law_2463 : decode cL_law 2463 = .ok (.iaload, 1) := by decide +kernel
theorem dL_law_2464 : decode cL_law 2464 = .ok (.aload_n 0, 1) := by decide +kernel
theorem dL_law_2465 : decode cL_law 2465 = .ok (.iload 5, 2) := by decide +kernel
theorem dL_law_2467 : decode cL_law 2467 = .ok (.iconst 2, 1) := by decide +kernel
theorem dL_law_2468 : decode cL_law 2468 = .ok (.iadd, 1) := by decide +kernel
theorem dL_law_2469 : decode cL_law 2469 = .ok (.iaload, 1) := by decide +kernel
theorem dL_law_2470 : decode cL_law 2470 = .ok (.aload_n 3, 1) := by decide +kernel
theorem dL_law_2471 : decode cL_law 2471 = .ok (.invokestatic 279, 3) := by decide +kernel
theorem dL_law_2474 : decode cL_law 2474 = .ok (.istore 6, 2) := by decide +kernel
theorem dL_law_2476 : decode cL_law 2476 = .ok (.aload_n 2, 1) := by decide +kernel
theorem dL_law_2477 : decode cL_law 2477 = .ok (.aload_n 0, 1) := by decide +kernel
theorem dL_law_2478 : decode cL_law 2478 = .ok (.iload 5, 2) := by decide +kernel
theorem dL_law_2480 : decode cL_law 2480 = .ok (.iconst 1, 1) := by decide +kernel
theorem dL_law_2481 : decode cL_law 2481 = .ok (.iadd, 1) := by decide +kernel
theorem dL_law_2482 : decode cL_law 2482 = .ok (.iaload, 1) := by decide +kernel
theorem dL_law_2483 : decode cL_law 2483 = .ok (.aload_n 0, 1) := by decide +kernel
theorem dL_law_2484 : decode cL_law 2484 = .ok (.iload 5, 2) := by decide +kernel
theorem dL_law_2486 : decode cL_law 2486 = .ok (.iconst 2, 1) := by decide +kernel
theorem dL_law_2487 : decode cL_law 2487 = .ok (.iadd, 1) := by decide +kernel
theorem dL_law_2488 : decode cL_law 2488 = .ok (.iaload, 1) := by decide +kernel
theorem dL_law_2489 : decode cL_law 2489 = .ok (.invokevirtual 281, 3) := by decide +kernel
theorem dL_law_2492 : decode cL_law 2492 = .ok (.istore 7, 2) := by decide +kernel
theorem dL_law_2494 : decode cL_law 2494 = .ok (.aload_n 2, 1) := by decide +kernel
theorem dL_law_2495 : decode cL_law 2495 = .ok (.invokevirtual 142, 3) := by decide +kernel
theorem dL_law_2498 : decode cL_law 2498 = .ok (.iload 6, 2) := by decide +kernel
theorem dL_law_2500 : decode cL_law 2500 = .ok (.if_icmp .eq 5, 3) := by decide +kernel
theorem dL_law_2503 : decode cL_law 2503 = .ok (.iconst 0, 1) := by decide +kernel
theorem dL_law_2504 : decode cL_law 2504 = .ok (.ireturn, 1) := by decide +kernel
theorem dL_law_2505 : decode cL_law 2505 = .ok (.iload 6, 2) := by decide +kernel
theorem dL_law_2507 : decode cL_law 2507 = .ok (.ifCond .ne 15, 3) := by decide +kernel
theorem dL_law_2510 : decode cL_law 2510 = .ok (.aload_n 3, 1) := by decide +kernel
theorem dL_law_2511 : decode cL_law 2511 = .ok (.iconst 0, 1) := by decide +kernel
theorem dL_law_2512 : decode cL_law 2512 = .ok (.laload, 1) := by decide +kernel
theorem dL_law_2513 : decode cL_law 2513 = .ok (.iload 7, 2) := by decide +kernel
theorem dL_law_2515 : decode cL_law 2515 = .ok (.i2l, 1) := by decide +kernel
theorem dL_law_2516 : decode cL_law 2516 = .ok (.lcmp, 1) := by decide +kernel
theorem dL_law_2517 : decode cL_law 2517 = .ok (.ifCond .eq 5, 3) := by decide +kernel
theorem dL_law_2520 : decode cL_law 2520 = .ok (.iconst 0, 1) := by decide +kernel
theorem dL_law_2521 : decode cL_law 2521 = .ok (.ireturn, 1) := by decide +kernel
theorem dL_law_2522 : decode cL_law 2522 = .ok (.goto 94, 3) := by decide +kernel
theorem dL_law_2525 : decode cL_law 2525 = .ok (.aload_n 1, 1) := by decide +kernel
theorem dL_law_2526 : decode cL_law 2526 = .ok (.aload_n 0, 1) := by decide +kernel
theorem dL_law_2527 : decode cL_law 2527 = .ok (.iload 5, 2) := by decide +kernel
theorem dL_law_2529 : decode cL_law 2529 = .ok (.iconst 1, 1) := by decide +kernel
theorem dL_law_2530 : decode cL_law 2530 = .ok (.iadd, 1) := by decide +kernel
theorem dL_law_2531 : decode cL_law 2531 = .ok (.iaload, 1) := by decide +kernel
theorem dL_law_2532 : decode cL_law 2532 = .ok (.aload 4, 2) := by decide +kernel
theorem dL_law_2534 : decode cL_law 2534 = .ok (.invokestatic 282, 3) := by decide +kernel
theorem dL_law_2537 : decode cL_law 2537 = .ok (.istore 6, 2) := by decide +kernel
theorem dL_law_2539 : decode cL_law 2539 = .ok (.aload_n 2, 1) := by decide +kernel
theorem dL_law_2540 : decode cL_law 2540 = .ok (.aload_n 0, 1) := by decide +kernel
theorem dL_law_2541 : decode cL_law 2541 = .ok (.iload 5, 2) := by decide +kernel
theorem dL_law_2543 : decode cL_law 2543 = .ok (.iconst 1, 1) := by decide +kernel
theorem dL_law_2544 : decode cL_law 2544 = .ok (.iadd, 1) := by decide +kernel
theorem dL_law_2545 : decode cL_law 2545 = .ok (.iaload, 1) := by decide +kernel
theorem dL_law_2546 : decode cL_law 2546 = .ok (.invokevirtual 285, 3) := by decide +kernel
theorem dL_law_2549 : decode cL_law 2549 = .ok (.dstore 7, 2) := by decide +kernel
theorem dL_law_2551 : decode cL_law 2551 = .ok (.aload_n 2, 1) := by decide +kernel
theorem dL_law_2552 : decode cL_law 2552 = .ok (.invokevirtual 142, 3) := by decide +kernel
theorem dL_law_2555 : decode cL_law 2555 = .ok (.iload 6, 2) := by decide +kernel
theorem dL_law_2557 : decode cL_law 2557 = .ok (.if_icmp .eq 5, 3) := by decide +kernel
theorem dL_law_2560 : decode cL_law 2560 = .ok (.iconst 0, 1) := by decide +kernel
theorem dL_law_2561 : decode cL_law 2561 = .ok (.ireturn, 1) := by decide +kernel
theorem dL_law_2562 : decode cL_law 2562 = .ok (.iload 6, 2) := by decide +kernel
theorem dL_law_2564 : decode cL_law 2564 = .ok (.ifCond .ne 35, 3) := by decide +kernel
theorem dL_law_2567 : decode cL_law 2567 = .ok (.aload 4, 2) := by decide +kernel
theorem dL_law_2569 : decode cL_law 2569 = .ok (.iconst 0, 1) := by decide +kernel
theorem dL_law_2570 : decode cL_law 2570 = .ok (.daload, 1) := by decide +kernel
theorem dL_law_2571 : decode cL_law 2571 = .ok (.dload 7, 2) := by decide +kernel
theorem dL_law_2573 : decode cL_law 2573 = .ok (.dcmp .l, 1) := by decide +kernel
theorem dL_law_2574 : decode cL_law 2574 = .ok (.ifCond .eq 25, 3) := by decide +kernel
theorem dL_law_2577 : decode cL_law 2577 = .ok (.aload 4, 2) := by decide +kernel
theorem dL_law_2579 : decode cL_law 2579 = .ok (.iconst 0, 1) := by decide +kernel
theorem dL_law_2580 : decode cL_law 2580 = .ok (.daload, 1) := by decide +kernel
theorem dL_law_2581 : decode cL_law 2581 = .ok (.aload 4, 2) := by decide +kernel
theorem dL_law_2583 : decode cL_law 2583 = .ok (.iconst 0, 1) := by decide +kernel
theorem dL_law_2584 : decode cL_law 2584 = .ok (.daload, 1) := by decide +kernel
theorem dL_law_2585 : decode cL_law 2585 = .ok (.dcmp .l, 1) := by decide +kernel
theorem dL_law_2586 : decode cL_law 2586 = .ok (.ifCond .eq 11, 3) := by decide +kernel
theorem dL_law_2589 : decode cL_law 2589 = .ok (.dload 7, 2) := by decide +kernel
theorem dL_law_2591 : decode cL_law 2591 = .ok (.dload 7, 2) := by decide +kernel
theorem dL_law_2593 : decode cL_law 2593 = .ok (.dcmp .l, 1) := by decide +kernel
theorem dL_law_2594 : decode cL_law 2594 = .ok (.ifCond .ne 5, 3) := by decide +kernel
theorem dL_law_2597 : decode cL_law 2597 = .ok (.iconst 0, 1) := by decide +kernel
theorem dL_law_2598 : decode cL_law 2598 = .ok (.ireturn, 1) := by decide +kernel
theorem dL_law_2599 : decode cL_law 2599 = .ok (.goto 17, 3) := by decide +kernel
theorem dL_law_2602 : decode cL_law 2602 = .ok (.aload_n 1, 1) := by decide +kernel
theorem dL_law_2603 : decode cL_law 2603 = .ok (.invokevirtual 286, 3) := by decide +kernel
theorem dL_law_2606 : decode cL_law 2606 = .ok (.aload_n 2, 1) := by decide +kernel
theorem dL_law_2607 : decode cL_law 2607 = .ok (.invokevirtual 290, 3) := by decide +kernel
theorem dL_law_2610 : decode cL_law 2610 = .ok (.lcmp, 1) := by decide +kernel
theorem dL_law_2611 : decode cL_law 2611 = .ok (.ifCond .eq 5, 3) := by decide +kernel
theorem dL_law_2614 : decode cL_law 2614 = .ok (.iconst 0, 1) := by decide +kernel
theorem dL_law_2615 : decode cL_law 2615 = .ok (.ireturn, 1) := by decide +kernel
theorem dL_law_2616 : decode cL_law 2616 = .ok (.iinc 5 4, 3) := by decide +kernel
theorem dL_law_2619 : decode cL_law 2619 = .ok (.goto (-2591), 3) := by decide +kernel
theorem dL_law_2622 : decode cL_law 2622 = .ok (.iconst 1, 1) := by decide +kernel
theorem dL_law_2623 : decode cL_law 2623 = .ok (.ireturn, 1) := by decide +kernel
