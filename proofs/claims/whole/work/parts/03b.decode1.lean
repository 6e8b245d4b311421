theorem dX0_restAfter_0 : decode cX0_restAfter 0 = .ok (.lload_n 2, 1) := by decide +kernel
theorem dX0_restAfter_1 : decode cX0_restAfter 1 = .ok (.lconst 1, 1) := by decide +kernel
theorem dX0_restAfter_2 : decode cX0_restAfter 2 = .ok (.lcmp, 1) := by decide +kernel
theorem dX0_restAfter_3 : decode cX0_restAfter 3 = .ok (.ifCond .ge 5, 3) := by decide +kernel
theorem dX0_restAfter_6 : decode cX0_restAfter 6 = .ok (.lconst 0, 1) := by decide +kernel
theorem dX0_restAfter_7 : decode cX0_restAfter 7 = .ok (.lreturn, 1) := by decide +kernel
theorem dX0_restAfter_8 : decode cX0_restAfter 8 = .ok (.lload_n 0, 1) := by decide +kernel
theorem dX0_restAfter_9 : decode cX0_restAfter 9 = .ok (.lstore 6, 2) := by decide +kernel
theorem dX0_restAfter_11 : decode cX0_restAfter 11 = .ok (.iconst 0, 1) := by decide +kernel
theorem dX0_restAfter_12 : decode cX0_restAfter 12 = .ok (.istore 8, 2) := by decide +kernel
theorem dX0_restAfter_14 : decode cX0_restAfter 14 = .ok (.iload 8, 2) := by decide +kernel
theorem dX0_restAfter_16 : decode cX0_restAfter 16 = .ok (.iload 5, 2) := by decide +kernel
theorem dX0_restAfter_18 : decode cX0_restAfter 18 = .ok (.if_icmp .ge 27, 3) := by decide +kernel
theorem dX0_restAfter_21 : decode cX0_restAfter 21 = .ok (.iload 8, 2) := by decide +kernel
theorem dX0_restAfter_23 : decode cX0_restAfter 23 = .ok (.sipush 2000, 3) := by decide +kernel
theorem dX0_restAfter_26 : decode cX0_restAfter 26 = .ok (.if_icmp .gt 19, 3) := by decide +kernel
theorem dX0_restAfter_29 : decode cX0_restAfter 29 = .ok (.lload 6, 2) := by decide +kernel
theorem dX0_restAfter_31 : decode cX0_restAfter 31 = .ok (.iload 4, 2) := by decide +kernel
theorem dX0_restAfter_33 : decode cX0_restAfter 33 = .ok (.i2l, 1) := by decide +kernel
theorem dX0_restAfter_34 : decode cX0_restAfter 34 = .ok (.lmul, 1) := by decide +kernel
theorem dX0_restAfter_35 : decode cX0_restAfter 35 = .ok (.lload_n 2, 1) := by decide +kernel
theorem dX0_restAfter_36 : decode cX0_restAfter 36 = .ok (.lrem, 1) := by decide +kernel
theorem dX0_restAfter_37 : decode cX0_restAfter 37 = .ok (.lstore 6, 2) := by decide +kernel
theorem dX0_restAfter_39 : decode cX0_restAfter 39 = .ok (.iinc 8 1, 3) := by decide +kernel
theorem dX0_restAfter_42 : decode cX0_restAfter 42 = .ok (.goto (-28), 3) := by decide +kernel
theorem dX0_restAfter_45 : decode cX0_restAfter 45 = .ok (.lload 6, 2) := by decide +kernel
theorem dX0_restAfter_47 : decode cX0_restAfter 47 = .ok (.lreturn, 1) := by decide +kernel
theorem dX0_digit_0 : decode cX0_digit 0 = .ok (.lload_n 0, 1) := by decide +kernel
theorem dX0_digit_1 : decode cX0_digit 1 = .ok (.lload_n 2, 1) := by decide +kernel
theorem dX0_digit_2 : decode cX0_digit 2 = .ok (.iload 4, 2) := by decide +kernel
theorem dX0_digit_4 : decode cX0_digit 4 = .ok (.iload 5, 2) := by decide +kernel
theorem dX0_digit_6 : decode cX0_digit 6 = .ok (.invokestatic 9, 3) := by decide +kernel
theorem dX0_digit_9 : decode cX0_digit 9 = .ok (.lstore 6, 2) := by decide +kernel
theorem dX0_digit_11 : decode cX0_digit 11 = .ok (.lload 6, 2) := by decide +kernel
theorem dX0_digit_13 : decode cX0_digit 13 = .ok (.iload 4, 2) := by decide +kernel
theorem dX0_digit_15 : decode cX0_digit 15 = .ok (.i2l, 1) := by decide +kernel
theorem dX0_digit_16 : decode cX0_digit 16 = .ok (.lmul, 1) := by decide +kernel
theorem dX0_digit_17 : decode cX0_digit 17 = .ok (.lload_n 2, 1) := by decide +kernel
theorem dX0_digit_18 : decode cX0_digit 18 = .ok (.invokestatic 15, 3) := by decide +kernel
theorem dX0_digit_21 : decode cX0_digit 21 = .ok (.l2i, 1) := by decide +kernel
theorem dX0_digit_22 : decode cX0_digit 22 = .ok (.ireturn, 1) := by decide +kernel
theorem dX0_digitOn_0 : decode cX0_digitOn 0 = .ok (.lload_n 0, 1) := by decide +kernel
theorem dX0_digitOn_1 : decode cX0_digitOn 1 = .ok (.lload_n 0, 1) := by decide +kernel
theorem dX0_digitOn_2 : decode cX0_digitOn 2 = .ok (.iload_n 2, 1) := by decide +kernel
theorem dX0_digitOn_3 : decode cX0_digitOn 3 = .ok (.i2l, 1) := by decide +kernel
theorem dX0_digitOn_4 : decode cX0_digitOn 4 = .ok (.invokestatic 21, 3) := by decide +kernel
theorem dX0_digitOn_7 : decode cX0_digitOn 7 = .ok (.invokestatic 15, 3) := by decide +kernel
theorem dX0_digitOn_10 : decode cX0_digitOn 10 = .ok (.lreturn, 1) := by decide +kernel
theorem dX0_head_0 : decode cX0_head 0 = .ok (.iconst 0, 1) := by decide +kernel
theorem dX0_head_1 : decode cX0_head 1 = .ok (.istore_n 3, 1) := by decide +kernel
theorem dX0_head_2 : decode cX0_head 2 = .ok (.lload_n 0, 1) := by decide +kernel
theorem dX0_head_3 : decode cX0_head 3 = .ok (.lstore 4, 2) := by decide +kernel
theorem dX0_head_5 : decode cX0_head 5 = .ok (.lload 4, 2) := by decide +kernel
theorem dX0_head_7 : decode cX0_head 7 = .ok (.iload_n 2, 1) := by decide +kernel
theorem dX0_head_8 : decode cX0_head 8 = .ok (.invokestatic 24, 3) := by decide +kernel
theorem dX0_head_11 : decode cX0_head 11 = .ok (.lstore 6, 2) := by decide +kernel
theorem dX0_head_13 : decode cX0_head 13 = .ok (.lload 6, 2) := by decide +kernel
theorem dX0_head_15 : decode cX0_head 15 = .ok (.lload 4, 2) := by decide +kernel
theorem dX0_head_17 : decode cX0_head 17 = .ok (.lcmp, 1) := by decide +kernel
theorem dX0_head_18 : decode cX0_head 18 = .ok (.ifCond .eq 27, 3) := by decide +kernel
theorem dX0_head_21 : decode cX0_head 21 = .ok (.iload_n 3, 1) := by decide +kernel
theorem dX0_head_22 : decode cX0_head 22 = .ok (.bipush 32, 2) := by decide +kernel
theorem dX0_head_24 : decode cX0_head 24 = .ok (.if_icmp .ge 21, 3) := by decide +kernel
theorem dX0_head_27 : decode cX0_head 27 = .ok (.lload 6, 2) := by decide +kernel
theorem dX0_head_29 : decode cX0_head 29 = .ok (.lstore 4, 2) := by decide +kernel
theorem dX0_head_31 : decode cX0_head 31 = .ok (.lload 4, 2) := by decide +kernel
theorem dX0_head_33 : decode cX0_head 33 = .ok (.iload_n 2, 1) := by decide +kernel
theorem dX0_head_34 : decode cX0_head 34 = .ok (.invokestatic 24, 3) := by decide +kernel
theorem dX0_head_37 : decode cX0_head 37 = .ok (.lstore 6, 2) := by decide +kernel
theorem dX0_head_39 : decode cX0_head 39 = .ok (.iinc 3 1, 3) := by decide +kernel
theorem dX0_head_42 : decode cX0_head 42 = .ok (.goto (-29), 3) := by decide +kernel
theorem dX0_head_45 : decode cX0_head 45 = .ok (.iload_n 3, 1) := by decide +kernel
theorem dX0_head_46 : decode cX0_head 46 = .ok (.ireturn, 1) := by decide +kernel
theorem dX0_coprimePart_0 : decode cX0_coprimePart 0 = .ok (.lload_n 0, 1) := by decide +kernel
theorem dX0_coprimePart_1 : decode cX0_coprimePart 1 = .ok (.lstore_n 3, 1) := by decide +kernel
theorem dX0_coprimePart_2 : decode cX0_coprimePart 2 = .ok (.lload_n 0, 1) := by decide +kernel
theorem dX0_coprimePart_3 : decode cX0_coprimePart 3 = .ok (.iload_n 2, 1) := by decide +kernel
theorem dX0_coprimePart_4 : decode cX0_coprimePart 4 = .ok (.invokestatic 28, 3) := by decide +kernel
theorem dX0_coprimePart_7 : decode cX0_coprimePart 7 = .ok (.istore 5, 2) := by decide +kernel
theorem dX0_coprimePart_9 : decode cX0_coprimePart 9 = .ok (.iload 5, 2) := by decide +kernel
theorem dX0_coprimePart_11 : decode cX0_coprimePart 11 = .ok (.ifCond .le 15, 3) := by decide +kernel
theorem dX0_coprimePart_14 : decode cX0_coprimePart 14 = .ok (.lload_n 3, 1) := by decide +kernel
theorem dX0_coprimePart_15 : decode cX0_coprimePart 15 = .ok (.iload_n 2, 1) := by decide +kernel
theorem dX0_coprimePart_16 : decode cX0_coprimePart 16 = .ok (.invokestatic 24, 3) := by decide +kernel
theorem dX0_coprimePart_19 : decode cX0_coprimePart 19 = .ok (.lstore_n 3, 1) := by decide +kernel
theorem dX0_coprimePart_20 : decode cX0_coprimePart 20 = .ok (.iinc 5 (-1), 3) := by decide +kernel
theorem dX0_coprimePart_23 : decode cX0_coprimePart 23 = .ok (.goto (-14), 3) := by decide +kernel
theorem dX0_coprimePart_26 : decode cX0_coprimePart 26 = .ok (.lload_n 3, 1) := by decide +kernel
theorem dX0_coprimePart_27 : decode cX0_coprimePart 27 = .ok (.lreturn, 1) := by decide +kernel
theorem dX0_periodByDividing_0 : decode cX0_periodByDividing 0 = .ok (.lload_n 0, 1) := by decide +kernel
theorem dX0_periodByDividing_1 : decode cX0_periodByDividing 1 = .ok (.lload_n 2, 1) := by decide +kernel
theorem dX0_periodByDividing_2 : decode cX0_periodByDividing 2 = .ok (.iload 4, 2) := by decide +kernel
theorem dX0_periodByDividing_4 : decode cX0_periodByDividing 4 = .ok (.iload 5, 2) := by decide +kernel
theorem dX0_periodByDividing_6 : decode cX0_periodByDividing 6 = .ok (.invokestatic 9, 3) := by decide +kernel
theorem dX0_periodByDividing_9 : decode cX0_periodByDividing 9 = .ok (.lstore 6, 2) := by decide +kernel
theorem dX0_periodByDividing_11 : decode cX0_periodByDividing 11 = .ok (.lload 6, 2) := by decide +kernel
theorem dX0_periodByDividing_13 : decode cX0_periodByDividing 13 = .ok (.lconst 0, 1) := by decide +kernel
theorem dX0_periodByDividing_14 : decode cX0_periodByDividing 14 = .ok (.lcmp, 1) := by decide +kernel
theorem dX0_periodByDividing_15 : decode cX0_periodByDividing 15 = .ok (.ifCond .ne 5, 3) := by decide +kernel
theorem dX0_periodByDividing_18 : decode cX0_periodByDividing 18 = .ok (.iconst 0, 1) := by decide +kernel
theorem dX0_periodByDividing_19 : decode cX0_periodByDividing 19 = .ok (.ireturn, 1) := by decide +kernel
theorem dX0_periodByDividing_20 : decode cX0_periodByDividing 20 = .ok (.iconst 1, 1) := by decide +kernel
theorem dX0_periodByDividing_21 : decode cX0_periodByDividing 21 = .ok (.istore 8, 2) := by decide +kernel
theorem dX0_periodByDividing_23 : decode cX0_periodByDividing 23 = .ok (.lload 6, 2) := by decide +kernel
theorem dX0_periodByDividing_25 : decode cX0_periodByDividing 25 = .ok (.lload_n 2, 1) := by decide +kernel
theorem dX0_periodByDividing_26 : decode cX0_periodByDividing 26 = .ok (.iload 4, 2) := by decide +kernel
theorem dX0_periodByDividing_28 : decode cX0_periodByDividing 28 = .ok (.iconst 1, 1) := by decide +kernel
theorem dX0_periodByDividing_29 : decode cX0_periodByDividing 29 = .ok (.invokestatic 9, 3) := by decide +kernel
theorem dX0_periodByDividing_32 : decode cX0_periodByDividing 32 = .ok (.lstore 9, 2) := by decide +kernel
theorem dX0_periodByDividing_34 : decode cX0_periodByDividing 34 = .ok (.lload 9, 2) := by decide +kernel
theorem dX0_periodByDividing_36 : decode cX0_periodByDividing 36 = .ok (.lload 6, 2) := by decide +kernel
theorem dX0_periodByDividing_38 : decode cX0_periodByDividing 38 = .ok (.lcmp, 1) := by decide +kernel
theorem dX0_periodByDividing_39 : decode cX0_periodByDividing 39 = .ok (.ifCond .eq 28, 3) := by decide +kernel
theorem dX0_periodByDividing_42 : decode cX0_periodByDividing 42 = .ok (.iload 8, 2) := by decide +kernel
theorem dX0_periodByDividing_44 : decode cX0_periodByDividing 44 = .ok (.i2l, 1) := by decide +kernel
theorem dX0_periodByDividing_45 : decode cX0_periodByDividing 45 = .ok (.lload_n 2, 1) := by decide +kernel
theorem dX0_periodByDividing_46 : decode cX0_periodByDividing 46 = .ok (.lcmp, 1) := by decide +kernel
theorem dX0_periodByDividing_47 : decode cX0_periodByDividing 47 = .ok (.ifCond .ge 20, 3) := by decide +kernel
theorem dX0_periodByDividing_50 : decode cX0_periodByDividing 50 = .ok (.lload 9, 2) := by decide +kernel
theorem dX0_periodByDividing_52 : decode cX0_periodByDividing 52 = .ok (.lload_n 2, 1) := by decide +kernel
theorem dX0_periodByDividing_53 : decode cX0_periodByDividing 53 = .ok (.iload 4, 2) := by decide +kernel
theorem dX0_periodByDividing_55 : decode cX0_periodByDividing 55 = .ok (.iconst 1, 1) := by decide +kernel
theorem dX0_periodByDividing_56 : decode cX0_periodByDividing 56 = .ok (.invokestatic 9, 3) := by decide +kernel
theorem dX0_periodByDividing_59 : decode cX0_periodByDividing 59 = .ok (.lstore 9, 2) := by decide +kernel
theorem dX0_periodByDividing_61 : decode cX0_periodByDividing 61 = .ok (.iinc 8 1, 3) := by decide +kernel
theorem dX0_periodByDividing_64 : decode cX0_periodByDividing 64 = .ok (.goto (-30), 3) := by decide +kernel
theorem dX0_periodByDividing_67 : decode cX0_periodByDividing 67 = .ok (.iload 8, 2) := by decide +kernel
theorem dX0_periodByDividing_69 : decode cX0_periodByDividing 69 = .ok (.ireturn, 1) := by decide +kernel
theorem dX0_timesToOne_0 : decode cX0_timesToOne 0 = .ok (.lload_n 1, 1) := by decide +kernel
theorem dX0_timesToOne_1 : decode cX0_timesToOne 1 = .ok (.lconst 1, 1) := by decide +kernel
theorem dX0_timesToOne_2 : decode cX0_timesToOne 2 = .ok (.lcmp, 1) := by decide +kernel
theorem dX0_timesToOne_3 : decode cX0_timesToOne 3 = .ok (.ifCond .gt 5, 3) := by decide +kernel
theorem dX0_timesToOne_6 : decode cX0_timesToOne 6 = .ok (.iconst 0, 1) := by decide +kernel
theorem dX0_timesToOne_7 : decode cX0_timesToOne 7 = .ok (.ireturn, 1) := by decide +kernel
theorem dX0_timesToOne_8 : decode cX0_timesToOne 8 = .ok (.iload_n 0, 1) := by decide +kernel
theorem dX0_timesToOne_9 : decode cX0_timesToOne 9 = .ok (.i2l, 1) := by decide +kernel
theorem dX0_timesToOne_10 : decode cX0_timesToOne 10 = .ok (.lload_n 1, 1) := by decide +kernel
theorem dX0_timesToOne_11 : decode cX0_timesToOne 11 = .ok (.lrem, 1) := by decide +kernel
theorem dX0_timesToOne_12 : decode cX0_timesToOne 12 = .ok (.lstore 4, 2) := by decide +kernel
theorem dX0_timesToOne_14 : decode cX0_timesToOne 14 = .ok (.iconst 1, 1) := by decide +kernel
theorem dX0_timesToOne_15 : decode cX0_timesToOne 15 = .ok (.istore 6, 2) := by decide +kernel
theorem dX0_timesToOne_17 : decode cX0_timesToOne 17 = .ok (.lload 4, 2) := by decide +kernel
theorem dX0_timesToOne_19 : decode cX0_timesToOne 19 = .ok (.lconst 1, 1) := by decide +kernel
theorem dX0_timesToOne_20 : decode cX0_timesToOne 20 = .ok (.lcmp, 1) := by decide +kernel
theorem dX0_timesToOne_21 : decode cX0_timesToOne 21 = .ok (.ifCond .eq 24, 3) := by decide +kernel
theorem dX0_timesToOne_24 : decode cX0_timesToOne 24 = .ok (.iload 6, 2) := by decide +kernel
theorem dX0_timesToOne_26 : decode cX0_timesToOne 26 = .ok (.iload_n 3, 1) := by decide +kernel
theorem dX0_timesToOne_27 : decode cX0_timesToOne 27 = .ok (.if_icmp .ge 18, 3) := by decide +kernel
theorem dX0_timesToOne_30 : decode cX0_timesToOne 30 = .ok (.lload 4, 2) := by decide +kernel
theorem dX0_timesToOne_32 : decode cX0_timesToOne 32 = .ok (.iload_n 0, 1) := by decide +kernel
theorem dX0_timesToOne_33 : decode cX0_timesToOne 33 = .ok (.i2l, 1) := by decide +kernel
theorem dX0_timesToOne_34 : decode cX0_timesToOne 34 = .ok (.lmul, 1) := by decide +kernel
theorem dX0_timesToOne_35 : decode cX0_timesToOne 35 = .ok (.lload_n 1, 1) := by decide +kernel
theorem dX0_timesToOne_36 : decode cX0_timesToOne 36 = .ok (.lrem, 1) := by decide +kernel
theorem dX0_timesToOne_37 : decode cX0_timesToOne 37 = .ok (.lstore 4, 2) := by decide +kernel
theorem dX0_timesToOne_39 : decode cX0_timesToOne 39 = .ok (.iinc 6 1, 3) := by decide +kernel
theorem dX0_timesToOne_42 : decode cX0_timesToOne 42 = .ok (.goto (-25), 3) := by decide +kernel
theorem dX0_timesToOne_45 : decode cX0_timesToOne 45 = .ok (.iload 6, 2) := by decide +kernel
theorem dX0_timesToOne_47 : decode cX0_timesToOne 47 = .ok (.ireturn, 1) := by decide +kernel
theorem dX0_periodByFactors_0 : decode cX0_periodByFactors 0 = .ok (.lload_n 0, 1) := by decide +kernel
theorem dX0_periodByFactors_1 : decode cX0_periodByFactors 1 = .ok (.lconst 1, 1) := by decide +kernel
theorem dX0_periodByFactors_2 : decode cX0_periodByFactors 2 = .ok (.lcmp, 1) := by decide +kernel
theorem dX0_periodByFactors_3 : decode cX0_periodByFactors 3 = .ok (.ifCond .gt 5, 3) := by decide +kernel
theorem dX0_periodByFactors_6 : decode cX0_periodByFactors 6 = .ok (.iconst 0, 1) := by decide +kernel
theorem dX0_periodByFactors_7 : decode cX0_periodByFactors 7 = .ok (.ireturn, 1) := by decide +kernel
theorem dX0_periodByFactors_8 : decode cX0_periodByFactors 8 = .ok (.lconst 1, 1) := by decide +kernel
theorem dX0_periodByFactors_9 : decode cX0_periodByFactors 9 = .ok (.lstore_n 3, 1) := by decide +kernel
theorem dX0_periodByFactors_10 : decode cX0_periodByFactors 10 = .ok (.lload_n 0, 1) := by decide +kernel
theorem dX0_periodByFactors_11 : decode cX0_periodByFactors 11 = .ok (.lstore 5, 2) := by decide +kernel
theorem dX0_periodByFactors_13 : decode cX0_periodByFactors 13 = .ok (.ldc2_w 32, 3) := by decide +kernel
theorem dX0_periodByFactors_16 : decode cX0_periodByFactors 16 = .ok (.lstore 7, 2) := by decide +kernel
theorem dX0_periodByFactors_18 : decode cX0_periodByFactors 18 = .ok (.lload 7, 2) := by decide +kernel
theorem dX0_periodByFactors_20 : decode cX0_periodByFactors 20 = .ok (.ldc2_w 34, 3) := by decide +kernel
theorem dX0_periodByFactors_23 : decode cX0_periodByFactors 23 = .ok (.lcmp, 1) := by decide +kernel
theorem dX0_periodByFactors_24 : decode cX0_periodByFactors 24 = .ok (.ifCond .gt 111, 3) := by decide +kernel
theorem dX0_periodByFactors_27 : decode cX0_periodByFactors 27 = .ok (.lload 5, 2) := by decide +kernel
theorem dX0_periodByFactors_29 : decode cX0_periodByFactors 29 = .ok (.lconst 1, 1) := by decide +kernel
theorem dX0_periodByFactors_30 : decode cX0_periodByFactors 30 = .ok (.lcmp, 1) := by decide +kernel
theorem dX0_periodByFactors_31 : decode cX0_periodByFactors 31 = .ok (.ifCond .le 104, 3) := by decide +kernel
theorem dX0_periodByFactors_34 : decode cX0_periodByFactors 34 = .ok (.lload 5, 2) := by decide +kernel
theorem dX0_periodByFactors_36 : decode cX0_periodByFactors 36 = .ok (.lload 7, 2) := by decide +kernel
theorem dX0_periodByFactors_38 : decode cX0_periodByFactors 38 = .ok (.invokestatic 15, 3) := by decide +kernel
theorem dX0_periodByFactors_41 : decode cX0_periodByFactors 41 = .ok (.lstore 9, 2) := by decide +kernel
theorem dX0_periodByFactors_43 : decode cX0_periodByFactors 43 = .ok (.lconst 1, 1) := by decide +kernel
theorem dX0_periodByFactors_44 : decode cX0_periodByFactors 44 = .ok (.lstore 11, 2) := by decide +kernel
theorem dX0_periodByFactors_46 : decode cX0_periodByFactors 46 = .ok (.iconst 0, 1) := by decide +kernel
theorem dX0_periodByFactors_47 : decode cX0_periodByFactors 47 = .ok (.istore 13, 2) := by decide +kernel
theorem dX0_periodByFactors_49 : decode cX0_periodByFactors 49 = .ok (.lload 9, 2) := by decide +kernel
theorem dX0_periodByFactors_51 : decode cX0_periodByFactors 51 = .ok (.lload 7, 2) := by decide +kernel
theorem dX0_periodByFactors_53 : decode cX0_periodByFactors 53 = .ok (.lmul, 1) := by decide +kernel
theorem dX0_periodByFactors_54 : decode cX0_periodByFactors 54 = .ok (.lload 5, 2) := by decide +kernel
theorem dX0_periodByFactors_56 : decode cX0_periodByFactors 56 = .ok (.lcmp, 1) := by decide +kernel
theorem dX0_periodByFactors_57 : decode cX0_periodByFactors 57 = .ok (.ifCond .ne 36, 3) := by decide +kernel
theorem dX0_periodByFactors_60 : decode cX0_periodByFactors 60 = .ok (.iload 13, 2) := by decide +kernel
theorem dX0_periodByFactors_62 : decode cX0_periodByFactors 62 = .ok (.bipush 32, 2) := by decide +kernel
theorem dX0_periodByFactors_64 : decode cX0_periodByFactors 64 = .ok (.if_icmp .ge 29, 3) := by decide +kernel
theorem dX0_periodByFactors_67 : decode cX0_periodByFactors 67 = .ok (.lload 11, 2) := by decide +kernel
theorem dX0_periodByFactors_69 : decode cX0_periodByFactors 69 = .ok (.lload 7, 2) := by decide +kernel
theorem dX0_periodByFactors_71 : decode cX0_periodByFactors 71 = .ok (.lmul, 1) := by decide +kernel
theorem dX0_periodByFactors_72 : decode cX0_periodByFactors 72 = .ok (.lstore 11, 2) := by decide +kernel
theorem dX0_periodByFactors_74 : decode cX0_periodByFactors 74 = .ok (.lload 9, 2) := by decide +kernel
theorem dX0_periodByFactors_76 : decode cX0_periodByFactors 76 = .ok (.lstore 5, 2) := by decide +kernel
theorem dX0_periodByFactors_78 : decode cX0_periodByFactors 78 = .ok (.lload 5, 2) := by decide +kernel
theorem dX0_periodByFactors_80 : decode cX0_periodByFactors 80 = .ok (.lload 7, 2) := by decide +kernel
theorem dX0_periodByFactors_82 : decode cX0_periodByFactors 82 = .ok (.invokestatic 15, 3) := by decide +kernel
theorem dX0_periodByFactors_85 : decode cX0_periodByFactors 85 = .ok (.lstore 9, 2) := by decide +kernel
theorem dX0_periodByFactors_87 : decode cX0_periodByFactors 87 = .ok (.iinc 13 1, 3) := by decide +kernel
theorem dX0_periodByFactors_90 : decode cX0_periodByFactors 90 = .ok (.goto (-41), 3) := by decide +kernel
theorem dX0_periodByFactors_93 : decode cX0_periodByFactors 93 = .ok (.lload 11, 2) := by decide +kernel
theorem dX0_periodByFactors_95 : decode cX0_periodByFactors 95 = .ok (.lconst 1, 1) := by decide +kernel
theorem dX0_periodByFactors_96 : decode cX0_periodByFactors 96 = .ok (.lcmp, 1) := by decide +kernel
theorem dX0_periodByFactors_97 : decode cX0_periodByFactors 97 = .ok (.ifCond .le 29, 3) := by decide +kernel
theorem dX0_periodByFactors_100 : decode cX0_periodByFactors 100 = .ok (.iload_n 2, 1) := by decide +kernel
theorem dX0_periodByFactors_101 : decode cX0_periodByFactors 101 = .ok (.lload 11, 2) := by decide +kernel
theorem dX0_periodByFactors_103 : decode cX0_periodByFactors 103 = .ok (.sipush 999, 3) := by decide +kernel
theorem dX0_periodByFactors_106 : decode cX0_periodByFactors 106 = .ok (.invokestatic 36, 3) := by decide +kernel
theorem dX0_periodByFactors_109 : decode cX0_periodByFactors 109 = .ok (.i2l, 1) := by decide +kernel
theorem dX0_periodByFactors_110 : decode cX0_periodByFactors 110 = .ok (.lstore 13, 2) := by decide +kernel
theorem dX0_periodByFactors_112 : decode cX0_periodByFactors 112 = .ok (.lload_n 3, 1) := by decide +kernel
theorem dX0_periodByFactors_113 : decode cX0_periodByFactors 113 = .ok (.lload_n 3, 1) := by decide +kernel
theorem dX0_periodByFactors_114 : decode cX0_periodByFactors 114 = .ok (.lload 13, 2) := by decide +kernel
theorem dX0_periodByFactors_116 : decode cX0_periodByFactors 116 = .ok (.invokestatic 21, 3) := by decide +kernel
theorem dX0_periodByFactors_119 : decode cX0_periodByFactors 119 = .ok (.invokestatic 15, 3) := by decide +kernel
theorem dX0_periodByFactors_122 : decode cX0_periodByFactors 122 = .ok (.lload 13, 2) := by decide +kernel
theorem dX0_periodByFactors_124 : decode cX0_periodByFactors 124 = .ok (.lmul, 1) := by decide +kernel
theorem dX0_periodByFactors_125 : decode cX0_periodByFactors 125 = .ok (.lstore_n 3, 1) := by decide +kernel
theorem dX0_periodByFactors_126 : decode cX0_periodByFactors 126 = .ok (.lload 7, 2) := by decide +kernel
theorem dX0_periodByFactors_128 : decode cX0_periodByFactors 128 = .ok (.lconst 1, 1) := by decide +kernel
theorem dX0_periodByFactors_129 : decode cX0_periodByFactors 129 = .ok (.ladd, 1) := by decide +kernel
theorem dX0_periodByFactors_130 : decode cX0_periodByFactors 130 = .ok (.lstore 7, 2) := by decide +kernel
theorem dX0_periodByFactors_132 : decode cX0_periodByFactors 132 = .ok (.goto (-114), 3) := by decide +kernel
theorem dX0_periodByFactors_135 : decode cX0_periodByFactors 135 = .ok (.lload_n 3, 1) := by decide +kernel
theorem dX0_periodByFactors_136 : decode cX0_periodByFactors 136 = .ok (.l2i, 1) := by decide +kernel
theorem dX0_periodByFactors_137 : decode cX0_periodByFactors 137 = .ok (.ireturn, 1) := by decide +kernel
theorem dX1_init_0 : decode cX1_init 0 = .ok (.aload_n 0, 1) := by decide +kernel
theorem dX1_init_1 : decode cX1_init 1 = .ok (.invokespecial 3, 3) := by decide +kernel
theorem dX1_init_4 : decode cX1_init 4 = .ok (.aload_n 0, 1) := by decide +kernel
theorem dX1_init_5 : decode cX1_init 5 = .ok (.iconst 0, 1) := by decide +kernel
theorem dX1_init_6 : decode cX1_init 6 = .ok (.putfield 9, 3) := by decide +kernel
theorem dX1_init_9 : decode cX1_init 9 = .ok (.aload_n 0, 1) := by decide +kernel
theorem dX1_init_10 : decode cX1_init 10 = .ok (.iconst 0, 1) := by decide +kernel
theorem dX1_init_11 : decode cX1_init 11 = .ok (.putfield 15, 3) := by decide +kernel
theorem dX1_init_14 : decode cX1_init 14 = .ok (.aload_n 0, 1) := by decide +kernel
theorem dX1_init_15 : decode cX1_init 15 = .ok (.iconst 0, 1) := by decide +kernel
theorem dX1_init_16 : decode cX1_init 16 = .ok (.putfield 18, 3) := by decide +kernel
theorem dX1_init_19 : decode cX1_init 19 = .ok (.aload_n 0, 1) := by decide +kernel
theorem dX1_init_20 : decode cX1_init 20 = .ok (.bipush 31, 2) := by decide +kernel
theorem dX1_init_22 : decode cX1_init 22 = .ok (.newarray .int, 2) := by decide +kernel
theorem dX1_init_24 : decode cX1_init 24 = .ok (.putfield 21, 3) := by decide +kernel
theorem dX1_init_27 : decode cX1_init 27 = .ok (.return_, 1) := by decide +kernel
theorem dX1_form_0 : decode cX1_form 0 = .ok (.iload_n 1, 1) := by decide +kernel
theorem dX1_form_1 : decode cX1_form 1 = .ok (.iload_n 3, 1) := by decide +kernel
theorem dX1_form_2 : decode cX1_form 2 = .ok (.invokestatic 25, 3) := by decide +kernel
theorem dX1_form_5 : decode cX1_form 5 = .ok (.iload_n 2, 1) := by decide +kernel
theorem dX1_form_6 : decode cX1_form 6 = .ok (.iload_n 3, 1) := by decide +kernel
theorem dX1_form_7 : decode cX1_form 7 = .ok (.invokestatic 25, 3) := by decide +kernel
theorem dX1_form_10 : decode cX1_form 10 = .ok (.invokestatic 31, 3) := by decide +kernel
theorem dX1_form_13 : decode cX1_form 13 = .ok (.istore 4, 2) := by decide +kernel
theorem dX1_form_15 : decode cX1_form 15 = .ok (.iload_n 1, 1) := by decide +kernel
theorem dX1_form_16 : decode cX1_form 16 = .ok (.i2l, 1) := by decide +kernel
theorem dX1_form_17 : decode cX1_form 17 = .ok (.lstore 5, 2) := by decide +kernel
theorem dX1_form_19 : decode cX1_form 19 = .ok (.iload_n 2, 1) := by decide +kernel
theorem dX1_form_20 : decode cX1_form 20 = .ok (.i2l, 1) := by decide +kernel
theorem dX1_form_21 : decode cX1_form 21 = .ok (.lstore 7, 2) := by decide +kernel
theorem dX1_form_23 : decode cX1_form 23 = .ok (.lconst 0, 1) := by decide +kernel
theorem dX1_form_24 : decode cX1_form 24 = .ok (.lstore 9, 2) := by decide +kernel
theorem dX1_form_26 : decode cX1_form 26 = .ok (.iconst 0, 1) := by decide +kernel
theorem dX1_form_27 : decode cX1_form 27 = .ok (.istore 11, 2) := by decide +kernel
theorem dX1_form_29 : decode cX1_form 29 = .ok (.aload_n 0, 1) := by decide +kernel
theorem dX1_form_30 : decode cX1_form 30 = .ok (.iconst 0, 1) := by decide +kernel
theorem dX1_form_31 : decode cX1_form 31 = .ok (.putfield 15, 3) := by decide +kernel
theorem dX1_form_34 : decode cX1_form 34 = .ok (.aload_n 0, 1) := by decide +kernel
theorem dX1_form_35 : decode cX1_form 35 = .ok (.iconst 0, 1) := by decide +kernel
theorem dX1_form_36 : decode cX1_form 36 = .ok (.putfield 18, 3) := by decide +kernel
theorem dX1_form_39 : decode cX1_form 39 = .ok (.iconst 0, 1) := by decide +kernel
theorem dX1_form_40 : decode cX1_form 40 = .ok (.istore 12, 2) := by decide +kernel
theorem dX1_form_42 : decode cX1_form 42 = .ok (.iload 12, 2) := by decide +kernel
theorem dX1_form_44 : decode cX1_form 44 = .ok (.iload 4, 2) := by decide +kernel
theorem dX1_form_46 : decode cX1_form 46 = .ok (.if_icmp .ge 133, 3) := by decide +kernel
theorem dX1_form_49 : decode cX1_form 49 = .ok (.iload 12, 2) := by decide +kernel
theorem dX1_form_51 : decode cX1_form 51 = .ok (.bipush 30, 2) := by decide +kernel
theorem dX1_form_53 : decode cX1_form 53 = .ok (.if_icmp .ge 126, 3) := by decide +kernel
theorem dX1_form_56 : decode cX1_form 56 = .ok (.lload 5, 2) := by decide +kernel
theorem dX1_form_58 : decode cX1_form 58 = .ok (.iload_n 3, 1) := by decide +kernel
theorem dX1_form_59 : decode cX1_form 59 = .ok (.i2l, 1) := by decide +kernel
theorem dX1_form_60 : decode cX1_form 60 = .ok (.invokestatic 36, 3) := by decide +kernel
theorem dX1_form_63 : decode cX1_form 63 = .ok (.lload 7, 2) := by decide +kernel
theorem dX1_form_65 : decode cX1_form 65 = .ok (.iload_n 3, 1) := by decide +kernel
theorem dX1_form_66 : decode cX1_form 66 = .ok (.i2l, 1) := by decide +kernel
theorem dX1_form_67 : decode cX1_form 67 = .ok (.invokestatic 36, 3) := by decide +kernel
theorem dX1_form_70 : decode cX1_form 70 = .ok (.ladd, 1) := by decide +kernel
theorem dX1_form_71 : decode cX1_form 71 = .ok (.lload 9, 2) := by decide +kernel
theorem dX1_form_73 : decode cX1_form 73 = .ok (.ladd, 1) := by decide +kernel
theorem dX1_form_74 : decode cX1_form 74 = .ok (.lstore 13, 2) := by decide +kernel
theorem dX1_form_76 : decode cX1_form 76 = .ok (.lload 13, 2) := by decide +kernel
theorem dX1_form_78 : decode cX1_form 78 = .ok (.iload_n 3, 1) := by decide +kernel
theorem dX1_form_79 : decode cX1_form 79 = .ok (.i2l, 1) := by decide +kernel
theorem dX1_form_80 : decode cX1_form 80 = .ok (.lcmp, 1) := by decide +kernel
theorem dX1_form_81 : decode cX1_form 81 = .ok (.ifCond .lt 7, 3) := by decide +kernel
theorem dX1_form_84 : decode cX1_form 84 = .ok (.lconst 1, 1) := by decide +kernel
theorem dX1_form_85 : decode cX1_form 85 = .ok (.goto 4, 3) := by decide +kernel
theorem dX1_form_88 : decode cX1_form 88 = .ok (.lconst 0, 1) := by decide +kernel
theorem dX1_form_89 : decode cX1_form 89 = .ok (.lstore 9, 2) := by decide +kernel
theorem dX1_form_91 : decode cX1_form 91 = .ok (.lload 9, 2) := by decide +kernel
theorem dX1_form_93 : decode cX1_form 93 = .ok (.lconst 1, 1) := by decide +kernel
theorem dX1_form_94 : decode cX1_form 94 = .ok (.lcmp, 1) := by decide +kernel
theorem dX1_form_95 : decode cX1_form 95 = .ok (.ifCond .ne 10, 3) := by decide +kernel
theorem dX1_form_98 : decode cX1_form 98 = .ok (.iload 11, 2) := by decide +kernel
theorem dX1_form_100 : decode cX1_form 100 = .ok (.iconst 1, 1) := by decide +kernel
theorem dX1_form_101 : decode cX1_form 101 = .ok (.iadd, 1) := by decide +kernel
theorem dX1_form_102 : decode cX1_form 102 = .ok (.goto 4, 3) := by decide +kernel
theorem dX1_form_105 : decode cX1_form 105 = .ok (.iconst 0, 1) := by decide +kernel
theorem dX1_form_106 : decode cX1_form 106 = .ok (.istore 11, 2) := by decide +kernel
theorem dX1_form_108 : decode cX1_form 108 = .ok (.aload_n 0, 1) := by decide +kernel
theorem dX1_form_109 : decode cX1_form 109 = .ok (.dup, 1) := by decide +kernel
theorem dX1_form_110 : decode cX1_form 110 = .ok (.getfield 15, 3) := by decide +kernel
theorem dX1_form_113 : decode cX1_form 113 = .ok (.iload 11, 2) := by decide +kernel
theorem dX1_form_115 : decode cX1_form 115 = .ok (.ifCond .le 7, 3) := by decide +kernel
theorem dX1_form_118 : decode cX1_form 118 = .ok (.iconst 1, 1) := by decide +kernel
theorem dX1_form_119 : decode cX1_form 119 = .ok (.goto 4, 3) := by decide +kernel
theorem dX1_form_122 : decode cX1_form 122 = .ok (.iconst 0, 1) := by decide +kernel
theorem dX1_form_123 : decode cX1_form 123 = .ok (.iadd, 1) := by decide +kernel
theorem dX1_form_124 : decode cX1_form 124 = .ok (.putfield 15, 3) := by decide +kernel
theorem dX1_form_127 : decode cX1_form 127 = .ok (.aload_n 0, 1) := by decide +kernel
theorem dX1_form_128 : decode cX1_form 128 = .ok (.aload_n 0, 1) := by decide +kernel
theorem dX1_form_129 : decode cX1_form 129 = .ok (.getfield 18, 3) := by decide +kernel
theorem dX1_form_132 : decode cX1_form 132 = .ok (.iload 11, 2) := by decide +kernel
theorem dX1_form_134 : decode cX1_form 134 = .ok (.invokestatic 31, 3) := by decide +kernel
theorem dX1_form_137 : decode cX1_form 137 = .ok (.putfield 18, 3) := by decide +kernel
theorem dX1_form_140 : decode cX1_form 140 = .ok (.aload_n 0, 1) := by decide +kernel
theorem dX1_form_141 : decode cX1_form 141 = .ok (.getfield 21, 3) := by decide +kernel
theorem dX1_form_144 : decode cX1_form 144 = .ok (.iload 12, 2) := by decide +kernel
theorem dX1_form_146 : decode cX1_form 146 = .ok (.lload 13, 2) := by decide +kernel
theorem dX1_form_148 : decode cX1_form 148 = .ok (.iload_n 3, 1) := by decide +kernel
theorem dX1_form_149 : decode cX1_form 149 = .ok (.i2l, 1) := by decide +kernel
theorem dX1_form_150 : decode cX1_form 150 = .ok (.invokestatic 36, 3) := by decide +kernel
theorem dX1_form_153 : decode cX1_form 153 = .ok (.l2i, 1) := by decide +kernel
theorem dX1_form_154 : decode cX1_form 154 = .ok (.iastore, 1) := by decide +kernel
theorem dX1_form_155 : decode cX1_form 155 = .ok (.lload 5, 2) := by decide +kernel
theorem dX1_form_157 : decode cX1_form 157 = .ok (.iload_n 3, 1) := by decide +kernel
theorem dX1_form_158 : decode cX1_form 158 = .ok (.i2l, 1) := by decide +kernel
theorem dX1_form_159 : decode cX1_form 159 = .ok (.invokestatic 42, 3) := by decide +kernel
theorem dX1_form_162 : decode cX1_form 162 = .ok (.lstore 5, 2) := by decide +kernel
theorem dX1_form_164 : decode cX1_form 164 = .ok (.lload 7, 2) := by decide +kernel
theorem dX1_form_166 : decode cX1_form 166 = .ok (.iload_n 3, 1) := by decide +kernel
theorem dX1_form_167 : decode cX1_form 167 = .ok (.i2l, 1) := by decide +kernel
theorem dX1_form_168 : decode cX1_form 168 = .ok (.invokestatic 42, 3) := by decide +kernel
theorem dX1_form_171 : decode cX1_form 171 = .ok (.lstore 7, 2) := by decide +kernel
theorem dX1_form_173 : decode cX1_form 173 = .ok (.iinc 12 1, 3) := by decide +kernel
theorem dX1_form_176 : decode cX1_form 176 = .ok (.goto (-134), 3) := by decide +kernel
theorem dX1_form_179 : decode cX1_form 179 = .ok (.aload_n 0, 1) := by decide +kernel
theorem dX1_form_180 : decode cX1_form 180 = .ok (.iload 4, 2) := by decide +kernel
theorem dX1_form_182 : decode cX1_form 182 = .ok (.putfield 9, 3) := by decide +kernel
theorem dX1_form_185 : decode cX1_form 185 = .ok (.lload 9, 2) := by decide +kernel
theorem dX1_form_187 : decode cX1_form 187 = .ok (.lconst 1, 1) := by decide +kernel
theorem dX1_form_188 : decode cX1_form 188 = .ok (.lcmp, 1) := by decide +kernel
theorem dX1_form_189 : decode cX1_form 189 = .ok (.ifCond .ne 29, 3) := by decide +kernel
theorem dX1_form_192 : decode cX1_form 192 = .ok (.iload 4, 2) := by decide +kernel
theorem dX1_form_194 : decode cX1_form 194 = .ok (.aload_n 0, 1) := by decide +kernel
theorem dX1_form_195 : decode cX1_form 195 = .ok (.getfield 21, 3) := by decide +kernel
theorem dX1_form_198 : decode cX1_form 198 = .ok (.arraylength, 1) := by decide +kernel
theorem dX1_form_199 : decode cX1_form 199 = .ok (.if_icmp .ge 19, 3) := by decide +kernel
theorem dX1_form_202 : decode cX1_form 202 = .ok (.aload_n 0, 1) := by decide +kernel
theorem dX1_form_203 : decode cX1_form 203 = .ok (.getfield 21, 3) := by decide +kernel
theorem dX1_form_206 : decode cX1_form 206 = .ok (.iload 4, 2) := by decide +kernel
theorem dX1_form_208 : decode cX1_form 208 = .ok (.iconst 1, 1) := by decide +kernel
theorem dX1_form_209 : decode cX1_form 209 = .ok (.iastore, 1) := by decide +kernel
theorem dX1_form_210 : decode cX1_form 210 = .ok (.aload_n 0, 1) := by decide +kernel
theorem dX1_form_211 : decode cX1_form 211 = .ok (.iload 4, 2) := by decide +kernel
theorem dX1_form_213 : decode cX1_form 213 = .ok (.iconst 1, 1) := by decide +kernel
theorem dX1_form_214 : decode cX1_form 214 = .ok (.iadd, 1) := by decide +kernel
theorem dX1_form_215 : decode cX1_form 215 = .ok (.putfield 9, 3) := by decide +kernel
theorem dX1_form_218 : decode cX1_form 218 = .ok (.return_, 1) := by decide +kernel
theorem dX1_digitAt_0 : decode cX1_digitAt 0 = .ok (.iload_n 1, 1) := by decide +kernel
theorem dX1_digitAt_1 : decode cX1_digitAt 1 = .ok (.ifCond .lt 21, 3) := by decide +kernel
theorem dX1_digitAt_4 : decode cX1_digitAt 4 = .ok (.iload_n 1, 1) := by decide +kernel
theorem dX1_digitAt_5 : decode cX1_digitAt 5 = .ok (.aload_n 0, 1) := by decide +kernel
theorem dX1_digitAt_6 : decode cX1_digitAt 6 = .ok (.getfield 21, 3) := by decide +kernel
theorem dX1_digitAt_9 : decode cX1_digitAt 9 = .ok (.arraylength, 1) := by decide +kernel
theorem dX1_digitAt_10 : decode cX1_digitAt 10 = .ok (.if_icmp .ge 12, 3) := by decide +kernel
theorem dX1_digitAt_13 : decode cX1_digitAt 13 = .ok (.aload_n 0, 1) := by decide +kernel
theorem dX1_digitAt_14 : decode cX1_digitAt 14 = .ok (.getfield 21, 3) := by decide +kernel
theorem dX1_digitAt_17 : decode cX1_digitAt 17 = .ok (.iload_n 1, 1) := by decide +kernel
theorem dX1_digitAt_18 : decode cX1_digitAt 18 = .ok (.iaload, 1) := by decide +kernel
theorem dX1_digitAt_19 : decode cX1_digitAt 19 = .ok (.goto 4, 3) := by decide +kernel
theorem dX1_digitAt_22 : decode cX1_digitAt 22 = .ok (.iconst 0, 1) := by decide +kernel
theorem dX1_digitAt_23 : decode cX1_digitAt 23 = .ok (.ireturn, 1) := by decide +kernel
theorem dX1_total_0 : decode cX1_total 0 = .ok (.lconst 0, 1) := by decide +kernel
theorem dX1_total_1 : decode cX1_total 1 = .ok (.lstore_n 2, 1) := by decide +kernel
theorem dX1_total_2 : decode cX1_total 2 = .ok (.aload_n 0, 1) := by decide +kernel
theorem dX1_total_3 : decode cX1_total 3 = .ok (.getfield 9, 3) := by decide +kernel
theorem dX1_total_6 : decode cX1_total 6 = .ok (.iconst 1, 1) := by decide +kernel
theorem dX1_total_7 : decode cX1_total 7 = .ok (.isub, 1) := by decide +kernel
theorem dX1_total_8 : decode cX1_total 8 = .ok (.istore 4, 2) := by decide +kernel
theorem dX1_total_10 : decode cX1_total 10 = .ok (.iload 4, 2) := by decide +kernel
theorem dX1_total_12 : decode cX1_total 12 = .ok (.ifCond .lt 22, 3) := by decide +kernel
theorem dX1_total_15 : decode cX1_total 15 = .ok (.lload_n 2, 1) := by decide +kernel
theorem dX1_total_16 : decode cX1_total 16 = .ok (.iload_n 1, 1) := by decide +kernel
theorem dX1_total_17 : decode cX1_total 17 = .ok (.i2l, 1) := by decide +kernel
theorem dX1_total_18 : decode cX1_total 18 = .ok (.lmul, 1) := by decide +kernel
theorem dX1_total_19 : decode cX1_total 19 = .ok (.aload_n 0, 1) := by decide +kernel
theorem dX1_total_20 : decode cX1_total 20 = .ok (.iload 4, 2) := by decide +kernel
theorem dX1_total_22 : decode cX1_total 22 = .ok (.invokevirtual 45, 3) := by decide +kernel
theorem dX1_total_25 : decode cX1_total 25 = .ok (.i2l, 1) := by decide +kernel
theorem dX1_total_26 : decode cX1_total 26 = .ok (.ladd, 1) := by decide +kernel
theorem dX1_total_27 : decode cX1_total 27 = .ok (.lstore_n 2, 1) := by decide +kernel
theorem dX1_total_28 : decode cX1_total 28 = .ok (.iinc 4 (-1), 3) := by decide +kernel
theorem dX1_total_31 : decode cX1_total 31 = .ok (.goto (-21), 3) := by decide +kernel
theorem dX1_total_34 : decode cX1_total 34 = .ok (.lload_n 2, 1) := by decide +kernel
theorem dX1_total_35 : decode cX1_total 35 = .ok (.lreturn, 1) := by decide +kernel
theorem dX2_init_0 : decode cX2_init 0 = .ok (.aload_n 0, 1) := by decide +kernel
theorem dX2_init_1 : decode cX2_init 1 = .ok (.invokespecial 3, 3) := by decide +kernel
theorem dX2_init_4 : decode cX2_init 4 = .ok (.aload_n 0, 1) := by decide +kernel
theorem dX2_init_5 : decode cX2_init 5 = .ok (.iconst 0, 1) := by decide +kernel
theorem dX2_init_6 : decode cX2_init 6 = .ok (.putfield 9, 3) := by decide +kernel
theorem dX2_init_9 : decode cX2_init 9 = .ok (.aload_n 0, 1) := by decide +kernel
theorem dX2_init_10 : decode cX2_init 10 = .ok (.bipush 60, 2) := by decide +kernel
theorem dX2_init_12 : decode cX2_init 12 = .ok (.newarray .int, 2) := by decide +kernel
theorem dX2_init_14 : decode cX2_init 14 = .ok (.putfield 15, 3) := by decide +kernel
theorem dX2_init_17 : decode cX2_init 17 = .ok (.aload_n 0, 1) := by decide +kernel
theorem dX2_init_18 : decode cX2_init 18 = .ok (.new 19, 3) := by decide +kernel
theorem dX2_init_21 : decode cX2_init 21 = .ok (.dup, 1) := by decide +kernel
theorem dX2_init_22 : decode cX2_init 22 = .ok (.invokespecial 21, 3) := by decide +kernel
theorem dX2_init_25 : decode cX2_init 25 = .ok (.putfield 22, 3) := by decide +kernel
theorem dX2_init_28 : decode cX2_init 28 = .ok (.return_, 1) := by decide +kernel
theorem dX2_put_0 : decode cX2_put 0 = .ok (.aload_n 0, 1) := by decide +kernel
theorem dX2_put_1 : decode cX2_put 1 = .ok (.getfield 9, 3) := by decide +kernel
theorem dX2_put_4 : decode cX2_put 4 = .ok (.ifCond .lt 32, 3) := by decide +kernel
theorem dX2_put_7 : decode cX2_put 7 = .ok (.aload_n 0, 1) := by decide +kernel
theorem dX2_put_8 : decode cX2_put 8 = .ok (.getfield 9, 3) := by decide +kernel
theorem dX2_put_11 : decode cX2_put 11 = .ok (.bipush 60, 2) := by decide +kernel
theorem dX2_put_13 : decode cX2_put 13 = .ok (.if_icmp .ge 23, 3) := by decide +kernel
theorem dX2_put_16 : decode cX2_put 16 = .ok (.aload_n 0, 1) := by decide +kernel
theorem dX2_put_17 : decode cX2_put 17 = .ok (.getfield 15, 3) := by decide +kernel
theorem dX2_put_20 : decode cX2_put 20 = .ok (.aload_n 0, 1) := by decide +kernel
theorem dX2_put_21 : decode cX2_put 21 = .ok (.getfield 9, 3) := by decide +kernel
theorem dX2_put_24 : decode cX2_put 24 = .ok (.iload_n 1, 1) := by decide +kernel
theorem dX2_put_25 : decode cX2_put 25 = .ok (.iastore, 1) := by decide +kernel
theorem dX2_put_26 : decode cX2_put 26 = .ok (.aload_n 0, 1) := by decide +kernel
theorem dX2_put_27 : decode cX2_put 27 = .ok (.dup, 1) := by decide +kernel
theorem dX2_put_28 : decode cX2_put 28 = .ok (.getfield 9, 3) := by decide +kernel
theorem dX2_put_31 : decode cX2_put 31 = .ok (.iconst 1, 1) := by decide +kernel
theorem dX2_put_32 : decode cX2_put 32 = .ok (.iadd, 1) := by decide +kernel
theorem dX2_put_33 : decode cX2_put 33 = .ok (.putfield 9, 3) := by decide +kernel
theorem dX2_put_36 : decode cX2_put 36 = .ok (.return_, 1) := by decide +kernel
theorem dX2_codeAt_0 : decode cX2_codeAt 0 = .ok (.iload_n 1, 1) := by decide +kernel
theorem dX2_codeAt_1 : decode cX2_codeAt 1 = .ok (.ifCond .lt 18, 3) := by decide +kernel
theorem dX2_codeAt_4 : decode cX2_codeAt 4 = .ok (.iload_n 1, 1) := by decide +kernel
theorem dX2_codeAt_5 : decode cX2_codeAt 5 = .ok (.bipush 60, 2) := by decide +kernel
theorem dX2_codeAt_7 : decode cX2_codeAt 7 = .ok (.if_icmp .ge 12, 3) := by decide +kernel
theorem dX2_codeAt_10 : decode cX2_codeAt 10 = .ok (.aload_n 0, 1) := by decide +kernel
theorem dX2_codeAt_11 : decode cX2_codeAt 11 = .ok (.getfield 15, 3) := by decide +kernel
theorem dX2_codeAt_14 : decode cX2_codeAt 14 = .ok (.iload_n 1, 1) := by decide +kernel
theorem dX2_codeAt_15 : decode cX2_codeAt 15 = .ok (.iaload, 1) := by decide +kernel
theorem dX2_codeAt_16 : decode cX2_codeAt 16 = .ok (.goto 4, 3) := by decide +kernel
theorem dX2_codeAt_19 : decode cX2_codeAt 19 = .ok (.iconst 0, 1) := by decide +kernel
theorem dX2_codeAt_20 : decode cX2_codeAt 20 = .ok (.ireturn, 1) := by decide +kernel
theorem dX2_errorIndex_0 : decode cX2_errorIndex 0 = .ok (.aload_n 0, 1) := by decide +kernel
theorem dX2_errorIndex_1 : decode cX2_errorIndex 1 = .ok (.getfield 22, 3) := by decide +kernel
theorem dX2_errorIndex_4 : decode cX2_errorIndex 4 = .ok (.invokevirtual 26, 3) := by decide +kernel
theorem dX2_errorIndex_7 : decode cX2_errorIndex 7 = .ok (.iconst 0, 1) := by decide +kernel
theorem dX2_errorIndex_8 : decode cX2_errorIndex 8 = .ok (.istore_n 1, 1) := by decide +kernel
theorem dX2_errorIndex_9 : decode cX2_errorIndex 9 = .ok (.iload_n 1, 1) := by decide +kernel
theorem dX2_errorIndex_10 : decode cX2_errorIndex 10 = .ok (.aload_n 0, 1) := by decide +kernel
theorem dX2_errorIndex_11 : decode cX2_errorIndex 11 = .ok (.getfield 9, 3) := by decide +kernel
theorem dX2_errorIndex_14 : decode cX2_errorIndex 14 = .ok (.if_icmp .ge 26, 3) := by decide +kernel
theorem dX2_errorIndex_17 : decode cX2_errorIndex 17 = .ok (.aload_n 0, 1) := by decide +kernel
theorem dX2_errorIndex_18 : decode cX2_errorIndex 18 = .ok (.getfield 22, 3) := by decide +kernel
theorem dX2_errorIndex_21 : decode cX2_errorIndex 21 = .ok (.aload_n 0, 1) := by decide +kernel
theorem dX2_errorIndex_22 : decode cX2_errorIndex 22 = .ok (.iload_n 1, 1) := by decide +kernel
theorem dX2_errorIndex_23 : decode cX2_errorIndex 23 = .ok (.invokevirtual 29, 3) := by decide +kernel
theorem dX2_errorIndex_26 : decode cX2_errorIndex 26 = .ok (.invokevirtual 33, 3) := by decide +kernel
theorem dX2_errorIndex_29 : decode cX2_errorIndex 29 = .ok (.ifCond .ne 5, 3) := by decide +kernel
theorem dX2_errorIndex_32 : decode cX2_errorIndex 32 = .ok (.iload_n 1, 1) := by decide +kernel
theorem dX2_errorIndex_33 : decode cX2_errorIndex 33 = .ok (.ireturn, 1) := by decide +kernel
theorem dX2_errorIndex_34 : decode cX2_errorIndex 34 = .ok (.iinc 1 1, 3) := by decide +kernel
theorem dX2_errorIndex_37 : decode cX2_errorIndex 37 = .ok (.goto (-28), 3) := by decide +kernel
theorem dX2_errorIndex_40 : decode cX2_errorIndex 40 = .ok (.aload_n 0, 1) := by decide +kernel
theorem dX2_errorIndex_41 : decode cX2_errorIndex 41 = .ok (.getfield 9, 3) := by decide +kernel
theorem dX2_errorIndex_44 : decode cX2_errorIndex 44 = .ok (.ireturn, 1) := by decide +kernel
theorem dX2_areComplete_0 : decode cX2_areComplete 0 = .ok (.aload_n 0, 1) := by decide +kernel
theorem dX2_areComplete_1 : decode cX2_areComplete 1 = .ok (.invokevirtual 37, 3) := by decide +kernel
theorem dX2_areComplete_4 : decode cX2_areComplete 4 = .ok (.aload_n 0, 1) := by decide +kernel
theorem dX2_areComplete_5 : decode cX2_areComplete 5 = .ok (.getfield 9, 3) := by decide +kernel
theorem dX2_areComplete_8 : decode cX2_areComplete 8 = .ok (.if_icmp .ne 17, 3) := by decide +kernel
theorem dX2_areComplete_11 : decode cX2_areComplete 11 = .ok (.aload_n 0, 1) := by decide +kernel
theorem dX2_areComplete_12 : decode cX2_areComplete 12 = .ok (.getfield 22, 3) := by decide +kernel
theorem dX2_areComplete_15 : decode cX2_areComplete 15 = .ok (.invokevirtual 41, 3) := by decide +kernel
theorem dX2_areComplete_18 : decode cX2_areComplete 18 = .ok (.ifCond .eq 7, 3) := by decide +kernel
theorem dX2_areComplete_21 : decode cX2_areComplete 21 = .ok (.iconst 1, 1) := by decide +kernel
theorem dX2_areComplete_22 : decode cX2_areComplete 22 = .ok (.goto 4, 3) := by decide +kernel
theorem dX2_areComplete_25 : decode cX2_areComplete 25 = .ok (.iconst 0, 1) := by decide +kernel
theorem dX2_areComplete_26 : decode cX2_areComplete 26 = .ok (.ireturn, 1) := by decide +kernel
theorem dX2_decimal_0 : decode cX2_decimal 0 = .ok (.iconst 0, 1) := by decide +kernel
theorem dX2_decimal_1 : decode cX2_decimal 1 = .ok (.istore_n 3, 1) := by decide +kernel
theorem dX2_decimal_2 : decode cX2_decimal 2 = .ok (.iload_n 1, 1) := by decide +kernel
theorem dX2_decimal_3 : decode cX2_decimal 3 = .ok (.istore 4, 2) := by decide +kernel
theorem dX2_decimal_5 : decode cX2_decimal 5 = .ok (.iload 4, 2) := by decide +kernel
theorem dX2_decimal_7 : decode cX2_decimal 7 = .ok (.iload_n 2, 1) := by decide +kernel
theorem dX2_decimal_8 : decode cX2_decimal 8 = .ok (.if_icmp .ge 24, 3) := by decide +kernel
theorem dX2_decimal_11 : decode cX2_decimal 11 = .ok (.bipush 10, 2) := by decide +kernel
theorem dX2_decimal_13 : decode cX2_decimal 13 = .ok (.iload_n 3, 1) := by decide +kernel
theorem dX2_decimal_14 : decode cX2_decimal 14 = .ok (.imul, 1) := by decide +kernel
theorem dX2_decimal_15 : decode cX2_decimal 15 = .ok (.aload_n 0, 1) := by decide +kernel
theorem dX2_decimal_16 : decode cX2_decimal 16 = .ok (.iload 4, 2) := by decide +kernel
theorem dX2_decimal_18 : decode cX2_decimal 18 = .ok (.invokevirtual 29, 3) := by decide +kernel
theorem dX2_decimal_21 : decode cX2_decimal 21 = .ok (.iadd, 1) := by decide +kernel
theorem dX2_decimal_22 : decode cX2_decimal 22 = .ok (.bipush 48, 2) := by decide +kernel
theorem dX2_decimal_24 : decode cX2_decimal 24 = .ok (.isub, 1) := by decide +kernel
theorem dX2_decimal_25 : decode cX2_decimal 25 = .ok (.istore_n 3, 1) := by decide +kernel
theorem dX2_decimal_26 : decode cX2_decimal 26 = .ok (.iinc 4 1, 3) := by decide +kernel
theorem dX2_decimal_29 : decode cX2_decimal 29 = .ok (.goto (-24), 3) := by decide +kernel
theorem dX2_decimal_32 : decode cX2_decimal 32 = .ok (.iload_n 3, 1) := by decide +kernel
theorem dX2_decimal_33 : decode cX2_decimal 33 = .ok (.ireturn, 1) := by decide +kernel
theorem dX3_init_0 : decode cX3_init 0 = .ok (.aload_n 0, 1) := by decide +kernel
theorem dX3_init_1 : decode cX3_init 1 = .ok (.invokespecial 3, 3) := by decide +kernel
theorem dX3_init_4 : decode cX3_init 4 = .ok (.aload_n 0, 1) := by decide +kernel
theorem dX3_init_5 : decode cX3_init 5 = .ok (.iconst 0, 1) := by decide +kernel
theorem dX3_init_6 : decode cX3_init 6 = .ok (.putfield 9, 3) := by decide +kernel
theorem dX3_init_9 : decode cX3_init 9 = .ok (.aload_n 0, 1) := by decide +kernel
theorem dX3_init_10 : decode cX3_init 10 = .ok (.iconst 0, 1) := by decide +kernel
theorem dX3_init_11 : decode cX3_init 11 = .ok (.putfield 15, 3) := by decide +kernel
theorem dX3_init_14 : decode cX3_init 14 = .ok (.aload_n 0, 1) := by decide +kernel
theorem dX3_init_15 : decode cX3_init 15 = .ok (.bipush 6, 2) := by decide +kernel
theorem dX3_init_17 : decode cX3_init 17 = .ok (.anewarray 18, 3) := by decide +kernel
theorem dX3_init_20 : decode cX3_init 20 = .ok (.putfield 20, 3) := by decide +kernel
theorem dX3_init_23 : decode cX3_init 23 = .ok (.iconst 0, 1) := by decide +kernel
theorem dX3_init_24 : decode cX3_init 24 = .ok (.istore_n 1, 1) := by decide +kernel
theorem dX3_init_25 : decode cX3_init 25 = .ok (.iload_n 1, 1) := by decide +kernel
theorem dX3_init_26 : decode cX3_init 26 = .ok (.bipush 6, 2) := by decide +kernel
theorem dX3_init_28 : decode cX3_init 28 = .ok (.if_icmp .ge 22, 3) := by decide +kernel
theorem dX3_init_31 : decode cX3_init 31 = .ok (.aload_n 0, 1) := by decide +kernel
theorem dX3_init_32 : decode cX3_init 32 = .ok (.getfield 20, 3) := by decide +kernel
theorem dX3_init_35 : decode cX3_init 35 = .ok (.iload_n 1, 1) := by decide +kernel
theorem dX3_init_36 : decode cX3_init 36 = .ok (.new 18, 3) := by decide +kernel
theorem dX3_init_39 : decode cX3_init 39 = .ok (.dup, 1) := by decide +kernel
theorem dX3_init_40 : decode cX3_init 40 = .ok (.invokespecial 24, 3) := by decide +kernel
theorem dX3_init_43 : decode cX3_init 43 = .ok (.aastore, 1) := by decide +kernel
theorem dX3_init_44 : decode cX3_init 44 = .ok (.iinc 1 1, 3) := by decide +kernel
theorem dX3_init_47 : decode cX3_init 47 = .ok (.goto (-22), 3) := by decide +kernel
theorem dX3_init_50 : decode cX3_init 50 = .ok (.return_, 1) := by decide +kernel
theorem dX3_push_0 : decode cX3_push 0 = .ok (.aload_n 0, 1) := by decide +kernel
theorem dX3_push_1 : decode cX3_push 1 = .ok (.getfield 15, 3) := by decide +kernel
theorem dX3_push_4 : decode cX3_push 4 = .ok (.ifCond .lt 37, 3) := by decide +kernel
theorem dX3_push_7 : decode cX3_push 7 = .ok (.aload_n 0, 1) := by decide +kernel
theorem dX3_push_8 : decode cX3_push 8 = .ok (.getfield 15, 3) := by decide +kernel
theorem dX3_push_11 : decode cX3_push 11 = .ok (.bipush 6, 2) := by decide +kernel
theorem dX3_push_13 : decode cX3_push 13 = .ok (.if_icmp .ge 28, 3) := by decide +kernel
theorem dX3_push_16 : decode cX3_push 16 = .ok (.aload_n 0, 1) := by decide +kernel
theorem dX3_push_17 : decode cX3_push 17 = .ok (.getfield 20, 3) := by decide +kernel
theorem dX3_push_20 : decode cX3_push 20 = .ok (.aload_n 0, 1) := by decide +kernel
theorem dX3_push_21 : decode cX3_push 21 = .ok (.getfield 15, 3) := by decide +kernel
theorem dX3_push_24 : decode cX3_push 24 = .ok (.aaload, 1) := by decide +kernel
theorem dX3_push_25 : decode cX3_push 25 = .ok (.ifnull 16, 3) := by decide +kernel
theorem dX3_push_28 : decode cX3_push 28 = .ok (.aload_n 0, 1) := by decide +kernel
theorem dX3_push_29 : decode cX3_push 29 = .ok (.getfield 20, 3) := by decide +kernel
theorem dX3_push_32 : decode cX3_push 32 = .ok (.aload_n 0, 1) := by decide +kernel
theorem dX3_push_33 : decode cX3_push 33 = .ok (.getfield 15, 3) := by decide +kernel
theorem dX3_push_36 : decode cX3_push 36 = .ok (.aaload, 1) := by decide +kernel
theorem dX3_push_37 : decode cX3_push 37 = .ok (.aload_n 1, 1) := by decide +kernel
theorem dX3_push_38 : decode cX3_push 38 = .ok (.invokevirtual 25, 3) := by decide +kernel
theorem dX3_push_41 : decode cX3_push 41 = .ok (.aload_n 0, 1) := by decide +kernel
theorem dX3_push_42 : decode cX3_push 42 = .ok (.aload_n 0, 1) := by decide +kernel
theorem dX3_push_43 : decode cX3_push 43 = .ok (.getfield 15, 3) := by decide +kernel
theorem dX3_push_46 : decode cX3_push 46 = .ok (.iconst 1, 1) := by decide +kernel
theorem dX3_push_47 : decode cX3_push 47 = .ok (.iadd, 1) := by decide +kernel
theorem dX3_push_48 : decode cX3_push 48 = .ok (.bipush 6, 2) := by decide +kernel
theorem dX3_push_50 : decode cX3_push 50 = .ok (.if_icmp .ge 12, 3) := by decide +kernel
theorem dX3_push_53 : decode cX3_push 53 = .ok (.aload_n 0, 1) := by decide +kernel
theorem dX3_push_54 : decode cX3_push 54 = .ok (.getfield 15, 3) := by decide +kernel
theorem dX3_push_57 : decode cX3_push 57 = .ok (.iconst 1, 1) := by decide +kernel
theorem dX3_push_58 : decode cX3_push 58 = .ok (.iadd, 1) := by decide +kernel
theorem dX3_push_59 : decode cX3_push 59 = .ok (.goto 4, 3) := by decide +kernel
theorem dX3_push_62 : decode cX3_push 62 = .ok (.iconst 0, 1) := by decide +kernel
theorem dX3_push_63 : decode cX3_push 63 = .ok (.putfield 15, 3) := by decide +kernel
theorem dX3_push_66 : decode cX3_push 66 = .ok (.aload_n 0, 1) := by decide +kernel
theorem dX3_push_67 : decode cX3_push 67 = .ok (.aload_n 0, 1) := by decide +kernel
theorem dX3_push_68 : decode cX3_push 68 = .ok (.getfield 9, 3) := by decide +kernel
theorem dX3_push_71 : decode cX3_push 71 = .ok (.iconst 1, 1) := by decide +kernel
theorem dX3_push_72 : decode cX3_push 72 = .ok (.iadd, 1) := by decide +kernel
theorem dX3_push_73 : decode cX3_push 73 = .ok (.bipush 6, 2) := by decide +kernel
theorem dX3_push_75 : decode cX3_push 75 = .ok (.invokestatic 29, 3) := by decide +kernel
theorem dX3_push_78 : decode cX3_push 78 = .ok (.putfield 9, 3) := by decide +kernel
theorem dX3_push_81 : decode cX3_push 81 = .ok (.return_, 1) := by decide +kernel
theorem dX3_pop_0 : decode cX3_pop 0 = .ok (.aload_n 0, 1) := by decide +kernel
theorem dX3_pop_1 : decode cX3_pop 1 = .ok (.aload_n 0, 1) := by decide +kernel
theorem dX3_pop_2 : decode cX3_pop 2 = .ok (.getfield 15, 3) := by decide +kernel
theorem dX3_pop_5 : decode cX3_pop 5 = .ok (.ifCond .le 12, 3) := by decide +kernel
theorem dX3_pop_8 : decode cX3_pop 8 = .ok (.aload_n 0, 1) := by decide +kernel
theorem dX3_pop_9 : decode cX3_pop 9 = .ok (.getfield 15, 3) := by decide +kernel
theorem dX3_pop_12 : decode cX3_pop 12 = .ok (.iconst 1, 1) := by decide +kernel
theorem dX3_pop_13 : decode cX3_pop 13 = .ok (.isub, 1) := by decide +kernel
theorem dX3_pop_14 : decode cX3_pop 14 = .ok (.goto 4, 3) := by decide +kernel
theorem dX3_pop_17 : decode cX3_pop 17 = .ok (.iconst 5, 1) := by decide +kernel
theorem dX3_pop_18 : decode cX3_pop 18 = .ok (.putfield 15, 3) := by decide +kernel
theorem dX3_pop_21 : decode cX3_pop 21 = .ok (.aload_n 0, 1) := by decide +kernel
theorem dX3_pop_22 : decode cX3_pop 22 = .ok (.aload_n 0, 1) := by decide +kernel
theorem dX3_pop_23 : decode cX3_pop 23 = .ok (.getfield 9, 3) := by decide +kernel
theorem dX3_pop_26 : decode cX3_pop 26 = .ok (.iconst 1, 1) := by decide +kernel
theorem dX3_pop_27 : decode cX3_pop 27 = .ok (.isub, 1) := by decide +kernel
theorem dX3_pop_28 : decode cX3_pop 28 = .ok (.iconst 0, 1) := by decide +kernel
theorem dX3_pop_29 : decode cX3_pop 29 = .ok (.invokestatic 35, 3) := by decide +kernel
theorem dX3_pop_32 : decode cX3_pop 32 = .ok (.putfield 9, 3) := by decide +kernel
theorem dX3_pop_35 : decode cX3_pop 35 = .ok (.aload_n 0, 1) := by decide +kernel
theorem dX3_pop_36 : decode cX3_pop 36 = .ok (.getfield 15, 3) := by decide +kernel
theorem dX3_pop_39 : decode cX3_pop 39 = .ok (.bipush 6, 2) := by decide +kernel
theorem dX3_pop_41 : decode cX3_pop 41 = .ok (.if_icmp .ge 28, 3) := by decide +kernel
theorem dX3_pop_44 : decode cX3_pop 44 = .ok (.aload_n 0, 1) := by decide +kernel
theorem dX3_pop_45 : decode cX3_pop 45 = .ok (.getfield 20, 3) := by decide +kernel
theorem dX3_pop_48 : decode cX3_pop 48 = .ok (.aload_n 0, 1) := by decide +kernel
theorem dX3_pop_49 : decode cX3_pop 49 = .ok (.getfield 15, 3) := by decide +kernel
theorem dX3_pop_52 : decode cX3_pop 52 = .ok (.aaload, 1) := by decide +kernel
theorem dX3_pop_53 : decode cX3_pop 53 = .ok (.ifnull 16, 3) := by decide +kernel
theorem dX3_pop_56 : decode cX3_pop 56 = .ok (.aload_n 1, 1) := by decide +kernel
theorem dX3_pop_57 : decode cX3_pop 57 = .ok (.aload_n 0, 1) := by decide +kernel
theorem dX3_pop_58 : decode cX3_pop 58 = .ok (.getfield 20, 3) := by decide +kernel
theorem dX3_pop_61 : decode cX3_pop 61 = .ok (.aload_n 0, 1) := by decide +kernel
theorem dX3_pop_62 : decode cX3_pop 62 = .ok (.getfield 15, 3) := by decide +kernel
theorem dX3_pop_65 : decode cX3_pop 65 = .ok (.aaload, 1) := by decide +kernel
theorem dX3_pop_66 : decode cX3_pop 66 = .ok (.invokevirtual 25, 3) := by decide +kernel
theorem dX3_pop_69 : decode cX3_pop 69 = .ok (.return_, 1) := by decide +kernel
theorem dX4_init_0 : decode cX4_init 0 = .ok (.aload_n 0, 1) := by decide +kernel
theorem dX4_init_1 : decode cX4_init 1 = .ok (.invokespecial 3, 3) := by decide +kernel
theorem dX4_init_4 : decode cX4_init 4 = .ok (.aload_n 0, 1) := by decide +kernel
theorem dX4_init_5 : decode cX4_init 5 = .ok (.iconst 0, 1) := by decide +kernel
theorem dX4_init_6 : decode cX4_init 6 = .ok (.putfield 9, 3) := by decide +kernel
theorem dX4_init_9 : decode cX4_init 9 = .ok (.aload_n 0, 1) := by decide +kernel
theorem dX4_init_10 : decode cX4_init 10 = .ok (.bipush 6, 2) := by decide +kernel
theorem dX4_init_12 : decode cX4_init 12 = .ok (.putfield 15, 3) := by decide +kernel
theorem dX4_init_15 : decode cX4_init 15 = .ok (.aload_n 0, 1) := by decide +kernel
theorem dX4_init_16 : decode cX4_init 16 = .ok (.iconst 0, 1) := by decide +kernel
theorem dX4_init_17 : decode cX4_init 17 = .ok (.putfield 19, 3) := by decide +kernel
theorem dX4_init_20 : decode cX4_init 20 = .ok (.aload_n 0, 1) := by decide +kernel
theorem dX4_init_21 : decode cX4_init 21 = .ok (.iconst 0, 1) := by decide +kernel
theorem dX4_init_22 : decode cX4_init 22 = .ok (.putfield 22, 3) := by decide +kernel
theorem dX4_init_25 : decode cX4_init 25 = .ok (.aload_n 0, 1) := by decide +kernel
theorem dX4_init_26 : decode cX4_init 26 = .ok (.lconst 0, 1) := by decide +kernel
theorem dX4_init_27 : decode cX4_init 27 = .ok (.putfield 25, 3) := by decide +kernel
theorem dX4_init_30 : decode cX4_init 30 = .ok (.aload_n 0, 1) := by decide +kernel
theorem dX4_init_31 : decode cX4_init 31 = .ok (.lconst 0, 1) := by decide +kernel
theorem dX4_init_32 : decode cX4_init 32 = .ok (.putfield 29, 3) := by decide +kernel
theorem dX4_init_35 : decode cX4_init 35 = .ok (.aload_n 0, 1) := by decide +kernel
theorem dX4_init_36 : decode cX4_init 36 = .ok (.lconst 1, 1) := by decide +kernel
theorem dX4_init_37 : decode cX4_init 37 = .ok (.putfield 32, 3) := by decide +kernel
theorem dX4_init_40 : decode cX4_init 40 = .ok (.aload_n 0, 1) := by decide +kernel
theorem dX4_init_41 : decode cX4_init 41 = .ok (.lconst 0, 1) := by decide +kernel
theorem dX4_init_42 : decode cX4_init 42 = .ok (.putfield 35, 3) := by decide +kernel
theorem dX4_init_45 : decode cX4_init 45 = .ok (.aload_n 0, 1) := by decide +kernel
theorem dX4_init_46 : decode cX4_init 46 = .ok (.lconst 1, 1) := by decide +kernel
theorem dX4_init_47 : decode cX4_init 47 = .ok (.putfield 38, 3) := by decide +kernel
theorem dX4_init_50 : decode cX4_init 50 = .ok (.return_, 1) := by decide +kernel
theorem dX4_begin_0 : decode cX4_begin 0 = .ok (.aload_n 0, 1) := by decide +kernel
theorem dX4_begin_1 : decode cX4_begin 1 = .ok (.iload_n 1, 1) := by decide +kernel
theorem dX4_begin_2 : decode cX4_begin 2 = .ok (.putfield 15, 3) := by decide +kernel
theorem dX4_begin_5 : decode cX4_begin 5 = .ok (.aload_n 0, 1) := by decide +kernel
theorem dX4_begin_6 : decode cX4_begin 6 = .ok (.iconst 0, 1) := by decide +kernel
theorem dX4_begin_7 : decode cX4_begin 7 = .ok (.putfield 9, 3) := by decide +kernel
theorem dX4_begin_10 : decode cX4_begin 10 = .ok (.aload_n 0, 1) := by decide +kernel
theorem dX4_begin_11 : decode cX4_begin 11 = .ok (.iconst 0, 1) := by decide +kernel
theorem dX4_begin_12 : decode cX4_begin 12 = .ok (.putfield 19, 3) := by decide +kernel
theorem dX4_begin_15 : decode cX4_begin 15 = .ok (.aload_n 0, 1) := by decide +kernel
theorem dX4_begin_16 : decode cX4_begin 16 = .ok (.iconst 0, 1) := by decide +kernel
theorem dX4_begin_17 : decode cX4_begin 17 = .ok (.putfield 22, 3) := by decide +kernel
theorem dX4_begin_20 : decode cX4_begin 20 = .ok (.aload_n 0, 1) := by decide +kernel
theorem dX4_begin_21 : decode cX4_begin 21 = .ok (.lconst 0, 1) := by decide +kernel
theorem dX4_begin_22 : decode cX4_begin 22 = .ok (.putfield 25, 3) := by decide +kernel
theorem dX4_begin_25 : decode cX4_begin 25 = .ok (.aload_n 0, 1) := by decide +kernel
theorem dX4_begin_26 : decode cX4_begin 26 = .ok (.lconst 0, 1) := by decide +kernel
theorem dX4_begin_27 : decode cX4_begin 27 = .ok (.putfield 29, 3) := by decide +kernel
theorem dX4_begin_30 : decode cX4_begin 30 = .ok (.aload_n 0, 1) := by decide +kernel
theorem dX4_begin_31 : decode cX4_begin 31 = .ok (.lconst 1, 1) := by decide +kernel
theorem dX4_begin_32 : decode cX4_begin 32 = .ok (.putfield 32, 3) := by decide +kernel
theorem dX4_begin_35 : decode cX4_begin 35 = .ok (.aload_n 0, 1) := by decide +kernel
theorem dX4_begin_36 : decode cX4_begin 36 = .ok (.lconst 0, 1) := by decide +kernel
theorem dX4_begin_37 : decode cX4_begin 37 = .ok (.putfield 35, 3) := by decide +kernel
theorem dX4_begin_40 : decode cX4_begin 40 = .ok (.aload_n 0, 1) := by decide +kernel
theorem dX4_begin_41 : decode cX4_begin 41 = .ok (.lconst 1, 1) := by decide +kernel
theorem dX4_begin_42 : decode cX4_begin 42 = .ok (.putfield 38, 3) := by decide +kernel
theorem dX4_begin_45 : decode cX4_begin 45 = .ok (.return_, 1) := by decide +kernel
theorem dX4_take_0 : decode cX4_take 0 = .ok (.iload_n 1, 1) := by decide +kernel
theorem dX4_take_1 : decode cX4_take 1 = .ok (.bipush 46, 2) := by decide +kernel
theorem dX4_take_3 : decode cX4_take 3 = .ok (.if_icmp .ne 11, 3) := by decide +kernel
theorem dX4_take_6 : decode cX4_take 6 = .ok (.aload_n 0, 1) := by decide +kernel
theorem dX4_take_7 : decode cX4_take 7 = .ok (.iconst 1, 1) := by decide +kernel
theorem dX4_take_8 : decode cX4_take 8 = .ok (.putfield 19, 3) := by decide +kernel
theorem dX4_take_11 : decode cX4_take 11 = .ok (.goto 31, 3) := by decide +kernel
theorem dX4_take_14 : decode cX4_take 14 = .ok (.iload_n 1, 1) := by decide +kernel
theorem dX4_take_15 : decode cX4_take 15 = .ok (.bipush 40, 2) := by decide +kernel
theorem dX4_take_17 : decode cX4_take 17 = .ok (.if_icmp .ne 11, 3) := by decide +kernel
theorem dX4_take_20 : decode cX4_take 20 = .ok (.aload_n 0, 1) := by decide +kernel
theorem dX4_take_21 : decode cX4_take 21 = .ok (.iconst 1, 1) := by decide +kernel
theorem dX4_take_22 : decode cX4_take 22 = .ok (.putfield 22, 3) := by decide +kernel
theorem dX4_take_25 : decode cX4_take 25 = .ok (.goto 17, 3) := by decide +kernel
theorem dX4_take_28 : decode cX4_take 28 = .ok (.iload_n 1, 1) := by decide +kernel
theorem dX4_take_29 : decode cX4_take 29 = .ok (.bipush 41, 2) := by decide +kernel
theorem dX4_take_31 : decode cX4_take 31 = .ok (.if_icmp .eq 11, 3) := by decide +kernel
theorem dX4_take_34 : decode cX4_take 34 = .ok (.aload_n 0, 1) := by decide +kernel
theorem dX4_take_35 : decode cX4_take 35 = .ok (.iload_n 1, 1) := by decide +kernel
theorem dX4_take_36 : decode cX4_take 36 = .ok (.invokestatic 41, 3) := by decide +kernel
theorem dX4_take_39 : decode cX4_take 39 = .ok (.invokevirtual 47, 3) := by decide +kernel
theorem dX4_take_42 : decode cX4_take 42 = .ok (.return_, 1) := by decide +kernel
theorem dX4_takeDigit_0 : decode cX4_takeDigit 0 = .ok (.aload_n 0, 1) := by decide +kernel
theorem dX4_takeDigit_1 : decode cX4_takeDigit 1 = .ok (.aload_n 0, 1) := by decide +kernel
theorem dX4_takeDigit_2 : decode cX4_takeDigit 2 = .ok (.getfield 9, 3) := by decide +kernel
theorem dX4_takeDigit_5 : decode cX4_takeDigit 5 = .ok (.ifCond .ne 11, 3) := by decide +kernel
theorem dX4_takeDigit_8 : decode cX4_takeDigit 8 = .ok (.iload_n 1, 1) := by decide +kernel
theorem dX4_takeDigit_9 : decode cX4_takeDigit 9 = .ok (.aload_n 0, 1) := by decide +kernel
theorem dX4_takeDigit_10 : decode cX4_takeDigit 10 = .ok (.getfield 15, 3) := by decide +kernel
theorem dX4_takeDigit_13 : decode cX4_takeDigit 13 = .ok (.if_icmp .lt 7, 3) := by decide +kernel
theorem dX4_takeDigit_16 : decode cX4_takeDigit 16 = .ok (.iconst 1, 1) := by decide +kernel
theorem dX4_takeDigit_17 : decode cX4_takeDigit 17 = .ok (.goto 4, 3) := by decide +kernel
theorem dX4_takeDigit_20 : decode cX4_takeDigit 20 = .ok (.iconst 0, 1) := by decide +kernel
theorem dX4_takeDigit_21 : decode cX4_takeDigit 21 = .ok (.putfield 9, 3) := by decide +kernel
theorem dX4_takeDigit_24 : decode cX4_takeDigit 24 = .ok (.aload_n 0, 1) := by decide +kernel
theorem dX4_takeDigit_25 : decode cX4_takeDigit 25 = .ok (.getfield 22, 3) := by decide +kernel
theorem dX4_takeDigit_28 : decode cX4_takeDigit 28 = .ok (.ifCond .eq 37, 3) := by decide +kernel
theorem dX4_takeDigit_31 : decode cX4_takeDigit 31 = .ok (.aload_n 0, 1) := by decide +kernel
theorem dX4_takeDigit_32 : decode cX4_takeDigit 32 = .ok (.aload_n 0, 1) := by decide +kernel
theorem dX4_takeDigit_33 : decode cX4_takeDigit 33 = .ok (.getfield 35, 3) := by decide +kernel
theorem dX4_takeDigit_36 : decode cX4_takeDigit 36 = .ok (.aload_n 0, 1) := by decide +kernel
theorem dX4_takeDigit_37 : decode cX4_takeDigit 37 = .ok (.getfield 15, 3) := by decide +kernel
theorem dX4_takeDigit_40 : decode cX4_takeDigit 40 = .ok (.i2l, 1) := by decide +kernel
theorem dX4_takeDigit_41 : decode cX4_takeDigit 41 = .ok (.lmul, 1) := by decide +kernel
theorem dX4_takeDigit_42 : decode cX4_takeDigit 42 = .ok (.iload_n 1, 1) := by decide +kernel
theorem dX4_takeDigit_43 : decode cX4_takeDigit 43 = .ok (.i2l, 1) := by decide +kernel
theorem dX4_takeDigit_44 : decode cX4_takeDigit 44 = .ok (.ladd, 1) := by decide +kernel
theorem dX4_takeDigit_45 : decode cX4_takeDigit 45 = .ok (.putfield 35, 3) := by decide +kernel
theorem dX4_takeDigit_48 : decode cX4_takeDigit 48 = .ok (.aload_n 0, 1) := by decide +kernel
theorem dX4_takeDigit_49 : decode cX4_takeDigit 49 = .ok (.aload_n 0, 1) := by decide +kernel
theorem dX4_takeDigit_50 : decode cX4_takeDigit 50 = .ok (.getfield 38, 3) := by decide +kernel
theorem dX4_takeDigit_53 : decode cX4_takeDigit 53 = .ok (.aload_n 0, 1) := by decide +kernel
theorem dX4_takeDigit_54 : decode cX4_takeDigit 54 = .ok (.getfield 15, 3) := by decide +kernel
theorem dX4_takeDigit_57 : decode cX4_takeDigit 57 = .ok (.i2l, 1) := by decide +kernel
theorem dX4_takeDigit_58 : decode cX4_takeDigit 58 = .ok (.lmul, 1) := by decide +kernel
theorem dX4_takeDigit_59 : decode cX4_takeDigit 59 = .ok (.putfield 38, 3) := by decide +kernel
theorem dX4_takeDigit_62 : decode cX4_takeDigit 62 = .ok (.goto 61, 3) := by decide +kernel
theorem dX4_takeDigit_65 : decode cX4_takeDigit 65 = .ok (.aload_n 0, 1) := by decide +kernel
theorem dX4_takeDigit_66 : decode cX4_takeDigit 66 = .ok (.getfield 19, 3) := by decide +kernel
theorem dX4_takeDigit_69 : decode cX4_takeDigit 69 = .ok (.ifCond .eq 37, 3) := by decide +kernel
theorem dX4_takeDigit_72 : decode cX4_takeDigit 72 = .ok (.aload_n 0, 1) := by decide +kernel
theorem dX4_takeDigit_73 : decode cX4_takeDigit 73 = .ok (.aload_n 0, 1) := by decide +kernel
theorem dX4_takeDigit_74 : decode cX4_takeDigit 74 = .ok (.getfield 29, 3) := by decide +kernel
theorem dX4_takeDigit_77 : decode cX4_takeDigit 77 = .ok (.aload_n 0, 1) := by decide +kernel
theorem dX4_takeDigit_78 : decode cX4_takeDigit 78 = .ok (.getfield 15, 3) := by decide +kernel
theorem dX4_takeDigit_81 : decode cX4_takeDigit 81 = .ok (.i2l, 1) := by decide +kernel
theorem dX4_takeDigit_82 : decode cX4_takeDigit 82 = .ok (.lmul, 1) := by decide +kernel
theorem dX4_takeDigit_83 : decode cX4_takeDigit 83 = .ok (.iload_n 1, 1) := by decide +kernel
theorem dX4_takeDigit_84 : decode cX4_takeDigit 84 = .ok (.i2l, 1) := by decide +kernel
theorem dX4_takeDigit_85 : decode cX4_takeDigit 85 = .ok (.ladd, 1) := by decide +kernel
theorem dX4_takeDigit_86 : decode cX4_takeDigit 86 = .ok (.putfield 29, 3) := by decide +kernel
theorem dX4_takeDigit_89 : decode cX4_takeDigit 89 = .ok (.aload_n 0, 1) := by decide +kernel
theorem dX4_takeDigit_90 : decode cX4_takeDigit 90 = .ok (.aload_n 0, 1) := by decide +kernel
theorem dX4_takeDigit_91 : decode cX4_takeDigit 91 = .ok (.getfield 32, 3) := by decide +kernel
theorem dX4_takeDigit_94 : decode cX4_takeDigit 94 = .ok (.aload_n 0, 1) := by decide +kernel
theorem dX4_takeDigit_95 : decode cX4_takeDigit 95 = .ok (.getfield 15, 3) := by decide +kernel
theorem dX4_takeDigit_98 : decode cX4_takeDigit 98 = .ok (.i2l, 1) := by decide +kernel
theorem dX4_takeDigit_99 : decode cX4_takeDigit 99 = .ok (.lmul, 1) := by decide +kernel
theorem dX4_takeDigit_100 : decode cX4_takeDigit 100 = .ok (.putfield 32, 3) := by decide +kernel
theorem dX4_takeDigit_103 : decode cX4_takeDigit 103 = .ok (.goto 20, 3) := by decide +kernel
theorem dX4_takeDigit_106 : decode cX4_takeDigit 106 = .ok (.aload_n 0, 1) := by decide +kernel
theorem dX4_takeDigit_107 : decode cX4_takeDigit 107 = .ok (.aload_n 0, 1) := by decide +kernel
theorem dX4_takeDigit_108 : decode cX4_takeDigit 108 = .ok (.getfield 25, 3) := by decide +kernel
theorem dX4_takeDigit_111 : decode cX4_takeDigit 111 = .ok (.aload_n 0, 1) := by decide +kernel
theorem dX4_takeDigit_112 : decode cX4_takeDigit 112 = .ok (.getfield 15, 3) := by decide +kernel
theorem dX4_takeDigit_115 : decode cX4_takeDigit 115 = .ok (.i2l, 1) := by decide +kernel
theorem dX4_takeDigit_116 : decode cX4_takeDigit 116 = .ok (.lmul, 1) := by decide +kernel
theorem dX4_takeDigit_117 : decode cX4_takeDigit 117 = .ok (.iload_n 1, 1) := by decide +kernel
theorem dX4_takeDigit_118 : decode cX4_takeDigit 118 = .ok (.i2l, 1) := by decide +kernel
theorem dX4_takeDigit_119 : decode cX4_takeDigit 119 = .ok (.ladd, 1) := by decide +kernel
theorem dX4_takeDigit_120 : decode cX4_takeDigit 120 = .ok (.putfield 25, 3) := by decide +kernel
theorem dX4_takeDigit_123 : decode cX4_takeDigit 123 = .ok (.return_, 1) := by decide +kernel
theorem dX4_putInto_0 : decode cX4_putInto 0 = .ok (.aload_n 0, 1) := by decide +kernel
theorem dX4_putInto_1 : decode cX4_putInto 1 = .ok (.getfield 22, 3) := by decide +kernel
theorem dX4_putInto_4 : decode cX4_putInto 4 = .ok (.ifCond .eq 34, 3) := by decide +kernel
theorem dX4_putInto_7 : decode cX4_putInto 7 = .ok (.aload_n 0, 1) := by decide +kernel
theorem dX4_putInto_8 : decode cX4_putInto 8 = .ok (.getfield 38, 3) := by decide +kernel
theorem dX4_putInto_11 : decode cX4_putInto 11 = .ok (.lconst 1, 1) := by decide +kernel
theorem dX4_putInto_12 : decode cX4_putInto 12 = .ok (.lsub, 1) := by decide +kernel
theorem dX4_putInto_13 : decode cX4_putInto 13 = .ok (.lstore_n 2, 1) := by decide +kernel
theorem dX4_putInto_14 : decode cX4_putInto 14 = .ok (.aload_n 1, 1) := by decide +kernel
theorem dX4_putInto_15 : decode cX4_putInto 15 = .ok (.aload_n 0, 1) := by decide +kernel
theorem dX4_putInto_16 : decode cX4_putInto 16 = .ok (.getfield 29, 3) := by decide +kernel
theorem dX4_putInto_19 : decode cX4_putInto 19 = .ok (.lload_n 2, 1) := by decide +kernel
theorem dX4_putInto_20 : decode cX4_putInto 20 = .ok (.lmul, 1) := by decide +kernel
theorem dX4_putInto_21 : decode cX4_putInto 21 = .ok (.aload_n 0, 1) := by decide +kernel
theorem dX4_putInto_22 : decode cX4_putInto 22 = .ok (.getfield 35, 3) := by decide +kernel
theorem dX4_putInto_25 : decode cX4_putInto 25 = .ok (.ladd, 1) := by decide +kernel
theorem dX4_putInto_26 : decode cX4_putInto 26 = .ok (.aload_n 0, 1) := by decide +kernel
theorem dX4_putInto_27 : decode cX4_putInto 27 = .ok (.getfield 32, 3) := by decide +kernel
theorem dX4_putInto_30 : decode cX4_putInto 30 = .ok (.lload_n 2, 1) := by decide +kernel
theorem dX4_putInto_31 : decode cX4_putInto 31 = .ok (.lmul, 1) := by decide +kernel
theorem dX4_putInto_32 : decode cX4_putInto 32 = .ok (.invokevirtual 51, 3) := by decide +kernel
theorem dX4_putInto_35 : decode cX4_putInto 35 = .ok (.goto 15, 3) := by decide +kernel
theorem dX4_putInto_38 : decode cX4_putInto 38 = .ok (.aload_n 1, 1) := by decide +kernel
theorem dX4_putInto_39 : decode cX4_putInto 39 = .ok (.aload_n 0, 1) := by decide +kernel
theorem dX4_putInto_40 : decode cX4_putInto 40 = .ok (.getfield 29, 3) := by decide +kernel
theorem dX4_putInto_43 : decode cX4_putInto 43 = .ok (.aload_n 0, 1) := by decide +kernel
theorem dX4_putInto_44 : decode cX4_putInto 44 = .ok (.getfield 32, 3) := by decide +kernel
theorem dX4_putInto_47 : decode cX4_putInto 47 = .ok (.invokevirtual 51, 3) := by decide +kernel
theorem dX4_putInto_50 : decode cX4_putInto 50 = .ok (.aload_n 1, 1) := by decide +kernel
theorem dX4_putInto_51 : decode cX4_putInto 51 = .ok (.getfield 57, 3) := by decide +kernel
theorem dX4_putInto_54 : decode cX4_putInto 54 = .ok (.ldc2_w 60, 3) := by decide +kernel
theorem dX4_putInto_57 : decode cX4_putInto 57 = .ok (.lcmp, 1) := by decide +kernel
theorem dX4_putInto_58 : decode cX4_putInto 58 = .ok (.ifCond .gt 25, 3) := by decide +kernel
theorem dX4_putInto_61 : decode cX4_putInto 61 = .ok (.aload_n 1, 1) := by decide +kernel
theorem dX4_putInto_62 : decode cX4_putInto 62 = .ok (.aload_n 0, 1) := by decide +kernel
theorem dX4_putInto_63 : decode cX4_putInto 63 = .ok (.getfield 25, 3) := by decide +kernel
theorem dX4_putInto_66 : decode cX4_putInto 66 = .ok (.aload_n 1, 1) := by decide +kernel
theorem dX4_putInto_67 : decode cX4_putInto 67 = .ok (.getfield 57, 3) := by decide +kernel
theorem dX4_putInto_70 : decode cX4_putInto 70 = .ok (.lmul, 1) := by decide +kernel
theorem dX4_putInto_71 : decode cX4_putInto 71 = .ok (.aload_n 1, 1) := by decide +kernel
theorem dX4_putInto_72 : decode cX4_putInto 72 = .ok (.getfield 62, 3) := by decide +kernel
theorem dX4_putInto_75 : decode cX4_putInto 75 = .ok (.ladd, 1) := by decide +kernel
theorem dX4_putInto_76 : decode cX4_putInto 76 = .ok (.aload_n 1, 1) := by decide +kernel
theorem dX4_putInto_77 : decode cX4_putInto 77 = .ok (.getfield 57, 3) := by decide +kernel
theorem dX4_putInto_80 : decode cX4_putInto 80 = .ok (.invokevirtual 51, 3) := by decide +kernel
theorem dX4_putInto_83 : decode cX4_putInto 83 = .ok (.return_, 1) := by decide +kernel
theorem dX5_quotient_0 : decode cX5_quotient 0 = .ok (.lload_n 2, 1) := by decide +kernel
theorem dX5_quotient_1 : decode cX5_quotient 1 = .ok (.lconst 1, 1) := by decide +kernel
theorem dX5_quotient_2 : decode cX5_quotient 2 = .ok (.lcmp, 1) := by decide +kernel
theorem dX5_quotient_3 : decode cX5_quotient 3 = .ok (.ifCond .ge 7, 3) := by decide +kernel
theorem dX5_quotient_6 : decode cX5_quotient 6 = .ok (.lconst 0, 1) := by decide +kernel
theorem dX5_quotient_7 : decode cX5_quotient 7 = .ok (.goto 6, 3) := by decide +kernel
theorem dX5_quotient_10 : decode cX5_quotient 10 = .ok (.lload_n 0, 1) := by decide +kernel
theorem dX5_quotient_11 : decode cX5_quotient 11 = .ok (.lload_n 2, 1) := by decide +kernel
theorem dX5_quotient_12 : decode cX5_quotient 12 = .ok (.ldiv, 1) := by decide +kernel
theorem dX5_quotient_13 : decode cX5_quotient 13 = .ok (.lreturn, 1) := by decide +kernel
theorem dX5_left_0 : decode cX5_left 0 = .ok (.lload_n 2, 1) := by decide +kernel
theorem dX5_left_1 : decode cX5_left 1 = .ok (.lconst 1, 1) := by decide +kernel
theorem dX5_left_2 : decode cX5_left 2 = .ok (.lcmp, 1) := by decide +kernel
theorem dX5_left_3 : decode cX5_left 3 = .ok (.ifCond .ge 7, 3) := by decide +kernel
theorem dX5_left_6 : decode cX5_left 6 = .ok (.lconst 0, 1) := by decide +kernel
theorem dX5_left_7 : decode cX5_left 7 = .ok (.goto 6, 3) := by decide +kernel
theorem dX5_left_10 : decode cX5_left 10 = .ok (.lload_n 0, 1) := by decide +kernel
theorem dX5_left_11 : decode cX5_left 11 = .ok (.lload_n 2, 1) := by decide +kernel
theorem dX5_left_12 : decode cX5_left 12 = .ok (.lrem, 1) := by decide +kernel
theorem dX5_left_13 : decode cX5_left 13 = .ok (.lreturn, 1) := by decide +kernel
theorem dX5_greatestCommon_0 : decode cX5_greatestCommon 0 = .ok (.lload_n 0, 1) := by decide +kernel
theorem dX5_greatestCommon_1 : decode cX5_greatestCommon 1 = .ok (.lstore 4, 2) := by decide +kernel
theorem dX5_greatestCommon_3 : decode cX5_greatestCommon 3 = .ok (.lload_n 2, 1) := by decide +kernel
theorem dX5_greatestCommon_4 : decode cX5_greatestCommon 4 = .ok (.lstore 6, 2) := by decide +kernel
theorem dX5_greatestCommon_6 : decode cX5_greatestCommon 6 = .ok (.iconst 0, 1) := by decide +kernel
theorem dX5_greatestCommon_7 : decode cX5_greatestCommon 7 = .ok (.istore 8, 2) := by decide +kernel
theorem dX5_greatestCommon_9 : decode cX5_greatestCommon 9 = .ok (.lload 6, 2) := by decide +kernel
theorem dX5_greatestCommon_11 : decode cX5_greatestCommon 11 = .ok (.lconst 0, 1) := by decide +kernel
theorem dX5_greatestCommon_12 : decode cX5_greatestCommon 12 = .ok (.lcmp, 1) := by decide +kernel
theorem dX5_greatestCommon_13 : decode cX5_greatestCommon 13 = .ok (.ifCond .eq 32, 3) := by decide +kernel
theorem dX5_greatestCommon_16 : decode cX5_greatestCommon 16 = .ok (.iload 8, 2) := by decide +kernel
theorem dX5_greatestCommon_18 : decode cX5_greatestCommon 18 = .ok (.sipush 200, 3) := by decide +kernel
theorem dX5_greatestCommon_21 : decode cX5_greatestCommon 21 = .ok (.if_icmp .ge 24, 3) := by decide +kernel
theorem dX5_greatestCommon_24 : decode cX5_greatestCommon 24 = .ok (.lload 4, 2) := by decide +kernel
theorem dX5_greatestCommon_26 : decode cX5_greatestCommon 26 = .ok (.lload 6, 2) := by decide +kernel
theorem dX5_greatestCommon_28 : decode cX5_greatestCommon 28 = .ok (.lrem, 1) := by decide +kernel
theorem dX5_greatestCommon_29 : decode cX5_greatestCommon 29 = .ok (.lstore 9, 2) := by decide +kernel
theorem dX5_greatestCommon_31 : decode cX5_greatestCommon 31 = .ok (.lload 6, 2) := by decide +kernel
theorem dX5_greatestCommon_33 : decode cX5_greatestCommon 33 = .ok (.lstore 4, 2) := by decide +kernel
theorem dX5_greatestCommon_35 : decode cX5_greatestCommon 35 = .ok (.lload 9, 2) := by decide +kernel
theorem dX5_greatestCommon_37 : decode cX5_greatestCommon 37 = .ok (.lstore 6, 2) := by decide +kernel
theorem dX5_greatestCommon_39 : decode cX5_greatestCommon 39 = .ok (.iinc 8 1, 3) := by decide +kernel
theorem dX5_greatestCommon_42 : decode cX5_greatestCommon 42 = .ok (.goto (-33), 3) := by decide +kernel
theorem dX5_greatestCommon_45 : decode cX5_greatestCommon 45 = .ok (.lload 4, 2) := by decide +kernel
theorem dX5_greatestCommon_47 : decode cX5_greatestCommon 47 = .ok (.lreturn, 1) := by decide +kernel
theorem dX5_power_0 : decode cX5_power 0 = .ok (.lconst 1, 1) := by decide +kernel
theorem dX5_power_1 : decode cX5_power 1 = .ok (.lstore_n 3, 1) := by decide +kernel
theorem dX5_power_2 : decode cX5_power 2 = .ok (.iconst 0, 1) := by decide +kernel
theorem dX5_power_3 : decode cX5_power 3 = .ok (.istore 5, 2) := by decide +kernel
theorem dX5_power_5 : decode cX5_power 5 = .ok (.iload 5, 2) := by decide +kernel
theorem dX5_power_7 : decode cX5_power 7 = .ok (.iload_n 2, 1) := by decide +kernel
theorem dX5_power_8 : decode cX5_power 8 = .ok (.if_icmp .ge 20, 3) := by decide +kernel
theorem dX5_power_11 : decode cX5_power 11 = .ok (.iload 5, 2) := by decide +kernel
theorem dX5_power_13 : decode cX5_power 13 = .ok (.bipush 100, 2) := by decide +kernel
theorem dX5_power_15 : decode cX5_power 15 = .ok (.if_icmp .ge 13, 3) := by decide +kernel
theorem dX5_power_18 : decode cX5_power 18 = .ok (.lload_n 3, 1) := by decide +kernel
theorem dX5_power_19 : decode cX5_power 19 = .ok (.lload_n 0, 1) := by decide +kernel
theorem dX5_power_20 : decode cX5_power 20 = .ok (.lmul, 1) := by decide +kernel
theorem dX5_power_21 : decode cX5_power 21 = .ok (.lstore_n 3, 1) := by decide +kernel
theorem dX5_power_22 : decode cX5_power 22 = .ok (.iinc 5 1, 3) := by decide +kernel
theorem dX5_power_25 : decode cX5_power 25 = .ok (.goto (-20), 3) := by decide +kernel
theorem dX5_power_28 : decode cX5_power 28 = .ok (.lload_n 3, 1) := by decide +kernel
theorem dX5_power_29 : decode cX5_power 29 = .ok (.lreturn, 1) := by decide +kernel
theorem dX6_init_0 : decode cX6_init 0 = .ok (.aload_n 0, 1) := by decide +kernel
theorem dX6_init_1 : decode cX6_init 1 = .ok (.invokespecial 3, 3) := by decide +kernel
theorem dX6_init_4 : decode cX6_init 4 = .ok (.aload_n 0, 1) := by decide +kernel
theorem dX6_init_5 : decode cX6_init 5 = .ok (.lconst 0, 1) := by decide +kernel
theorem dX6_init_6 : decode cX6_init 6 = .ok (.putfield 9, 3) := by decide +kernel
theorem dX6_init_9 : decode cX6_init 9 = .ok (.aload_n 0, 1) := by decide +kernel
theorem dX6_init_10 : decode cX6_init 10 = .ok (.lconst 1, 1) := by decide +kernel
theorem dX6_init_11 : decode cX6_init 11 = .ok (.putfield 15, 3) := by decide +kernel
theorem dX6_init_14 : decode cX6_init 14 = .ok (.return_, 1) := by decide +kernel
theorem dX6_put_0 : decode cX6_put 0 = .ok (.lload_n 1, 1) := by decide +kernel
theorem dX6_put_1 : decode cX6_put 1 = .ok (.invokestatic 18, 3) := by decide +kernel
theorem dX6_put_4 : decode cX6_put 4 = .ok (.lload_n 3, 1) := by decide +kernel
theorem dX6_put_5 : decode cX6_put 5 = .ok (.invokestatic 24, 3) := by decide +kernel
theorem dX6_put_8 : decode cX6_put 8 = .ok (.lstore 5, 2) := by decide +kernel
theorem dX6_put_10 : decode cX6_put 10 = .ok (.aload_n 0, 1) := by decide +kernel
theorem dX6_put_11 : decode cX6_put 11 = .ok (.lload_n 1, 1) := by decide +kernel
theorem dX6_put_12 : decode cX6_put 12 = .ok (.lload 5, 2) := by decide +kernel
theorem dX6_put_14 : decode cX6_put 14 = .ok (.invokestatic 30, 3) := by decide +kernel
theorem dX6_put_17 : decode cX6_put 17 = .ok (.putfield 9, 3) := by decide +kernel
theorem dX6_put_20 : decode cX6_put 20 = .ok (.aload_n 0, 1) := by decide +kernel
theorem dX6_put_21 : decode cX6_put 21 = .ok (.lload_n 3, 1) := by decide +kernel
theorem dX6_put_22 : decode cX6_put 22 = .ok (.lload 5, 2) := by decide +kernel
theorem dX6_put_24 : decode cX6_put 24 = .ok (.invokestatic 30, 3) := by decide +kernel
theorem dX6_put_27 : decode cX6_put 27 = .ok (.putfield 15, 3) := by decide +kernel
theorem dX6_put_30 : decode cX6_put 30 = .ok (.return_, 1) := by decide +kernel
theorem dX6_reasonAgainst_0 : decode cX6_reasonAgainst 0 = .ok (.aload_n 0, 1) := by decide +kernel
theorem dX6_reasonAgainst_1 : decode cX6_reasonAgainst 1 = .ok (.getfield 9, 3) := by decide +kernel
theorem dX6_reasonAgainst_4 : decode cX6_reasonAgainst 4 = .ok (.lconst 0, 1) := by decide +kernel
theorem dX6_reasonAgainst_5 : decode cX6_reasonAgainst 5 = .ok (.lcmp, 1) := by decide +kernel
theorem dX6_reasonAgainst_6 : decode cX6_reasonAgainst 6 = .ok (.ifCond .ge 5, 3) := by decide +kernel
theorem dX6_reasonAgainst_9 : decode cX6_reasonAgainst 9 = .ok (.iconst 3, 1) := by decide +kernel
theorem dX6_reasonAgainst_10 : decode cX6_reasonAgainst 10 = .ok (.ireturn, 1) := by decide +kernel
theorem dX6_reasonAgainst_11 : decode cX6_reasonAgainst 11 = .ok (.aload_n 0, 1) := by decide +kernel
theorem dX6_reasonAgainst_12 : decode cX6_reasonAgainst 12 = .ok (.getfield 9, 3) := by decide +kernel
theorem dX6_reasonAgainst_15 : decode cX6_reasonAgainst 15 = .ok (.ldc2_w 33, 3) := by decide +kernel
theorem dX6_reasonAgainst_18 : decode cX6_reasonAgainst 18 = .ok (.lcmp, 1) := by decide +kernel
theorem dX6_reasonAgainst_19 : decode cX6_reasonAgainst 19 = .ok (.ifCond .gt 14, 3) := by decide +kernel
theorem dX6_reasonAgainst_22 : decode cX6_reasonAgainst 22 = .ok (.aload_n 0, 1) := by decide +kernel
theorem dX6_reasonAgainst_23 : decode cX6_reasonAgainst 23 = .ok (.getfield 15, 3) := by decide +kernel
theorem dX6_reasonAgainst_26 : decode cX6_reasonAgainst 26 = .ok (.ldc2_w 35, 3) := by decide +kernel
theorem dX6_reasonAgainst_29 : decode cX6_reasonAgainst 29 = .ok (.lcmp, 1) := by decide +kernel
theorem dX6_reasonAgainst_30 : decode cX6_reasonAgainst 30 = .ok (.ifCond .le 7, 3) := by decide +kernel
theorem dX6_reasonAgainst_33 : decode cX6_reasonAgainst 33 = .ok (.iconst 2, 1) := by decide +kernel
theorem dX6_reasonAgainst_34 : decode cX6_reasonAgainst 34 = .ok (.goto 4, 3) := by decide +kernel
theorem dX6_reasonAgainst_37 : decode cX6_reasonAgainst 37 = .ok (.iconst 0, 1) := by decide +kernel
theorem dX6_reasonAgainst_38 : decode cX6_reasonAgainst 38 = .ok (.ireturn, 1) := by decide +kernel
theorem dX7_init_0 : decode cX7_init 0 = .ok (.aload_n 0, 1) := by decide +kernel
theorem dX7_init_1 : decode cX7_init 1 = .ok (.invokespecial 3, 3) := by decide +kernel
theorem dX7_init_4 : decode cX7_init 4 = .ok (.aload_n 0, 1) := by decide +kernel
theorem dX7_init_5 : decode cX7_init 5 = .ok (.bipush 6, 2) := by decide +kernel
theorem dX7_init_7 : decode cX7_init 7 = .ok (.putfield 9, 3) := by decide +kernel
theorem dX7_init_10 : decode cX7_init 10 = .ok (.aload_n 0, 1) := by decide +kernel
theorem dX7_init_11 : decode cX7_init 11 = .ok (.iconst 0, 1) := by decide +kernel
theorem dX7_init_12 : decode cX7_init 12 = .ok (.putfield 15, 3) := by decide +kernel
theorem dX7_init_15 : decode cX7_init 15 = .ok (.aload_n 0, 1) := by decide +kernel
theorem dX7_init_16 : decode cX7_init 16 = .ok (.iconst 0, 1) := by decide +kernel
theorem dX7_init_17 : decode cX7_init 17 = .ok (.putfield 18, 3) := by decide +kernel
theorem dX7_init_20 : decode cX7_init 20 = .ok (.aload_n 0, 1) := by decide +kernel
theorem dX7_init_21 : decode cX7_init 21 = .ok (.bipush 6, 2) := by decide +kernel
theorem dX7_init_23 : decode cX7_init 23 = .ok (.newarray .int, 2) := by decide +kernel
theorem dX7_init_25 : decode cX7_init 25 = .ok (.putfield 21, 3) := by decide +kernel
theorem dX7_init_28 : decode cX7_init 28 = .ok (.aload_n 0, 1) := by decide +kernel
theorem dX7_init_29 : decode cX7_init 29 = .ok (.bipush 6, 2) := by decide +kernel
theorem dX7_init_31 : decode cX7_init 31 = .ok (.newarray .int, 2) := by decide +kernel
theorem dX7_init_33 : decode cX7_init 33 = .ok (.putfield 25, 3) := by decide +kernel
theorem dX7_init_36 : decode cX7_init 36 = .ok (.iconst 0, 1) := by decide +kernel
theorem dX7_init_37 : decode cX7_init 37 = .ok (.istore_n 1, 1) := by decide +kernel
theorem dX7_init_38 : decode cX7_init 38 = .ok (.iload_n 1, 1) := by decide +kernel
theorem dX7_init_39 : decode cX7_init 39 = .ok (.bipush 6, 2) := by decide +kernel
theorem dX7_init_41 : decode cX7_init 41 = .ok (.if_icmp .ge 16, 3) := by decide +kernel
theorem dX7_init_44 : decode cX7_init 44 = .ok (.aload_n 0, 1) := by decide +kernel
theorem dX7_init_45 : decode cX7_init 45 = .ok (.getfield 25, 3) := by decide +kernel
theorem dX7_init_48 : decode cX7_init 48 = .ok (.iload_n 1, 1) := by decide +kernel
theorem dX7_init_49 : decode cX7_init 49 = .ok (.iconst 1, 1) := by decide +kernel
theorem dX7_init_50 : decode cX7_init 50 = .ok (.iastore, 1) := by decide +kernel
theorem dX7_init_51 : decode cX7_init 51 = .ok (.iinc 1 1, 3) := by decide +kernel
theorem dX7_init_54 : decode cX7_init 54 = .ok (.goto (-16), 3) := by decide +kernel
theorem dX7_init_57 : decode cX7_init 57 = .ok (.return_, 1) := by decide +kernel
theorem dX7_isAccount_0 : decode cX7_isAccount 0 = .ok (.iload_n 0, 1) := by decide +kernel
theorem dX7_isAccount_1 : decode cX7_isAccount 1 = .ok (.ifCond .lt 13, 3) := by decide +kernel
theorem dX7_isAccount_4 : decode cX7_isAccount 4 = .ok (.iload_n 0, 1) := by decide +kernel
theorem dX7_isAccount_5 : decode cX7_isAccount 5 = .ok (.bipush 6, 2) := by decide +kernel
theorem dX7_isAccount_7 : decode cX7_isAccount 7 = .ok (.if_icmp .ge 7, 3) := by decide +kernel
theorem dX7_isAccount_10 : decode cX7_isAccount 10 = .ok (.iconst 1, 1) := by decide +kernel
theorem dX7_isAccount_11 : decode cX7_isAccount 11 = .ok (.goto 4, 3) := by decide +kernel
theorem dX7_isAccount_14 : decode cX7_isAccount 14 = .ok (.iconst 0, 1) := by decide +kernel
theorem dX7_isAccount_15 : decode cX7_isAccount 15 = .ok (.ireturn, 1) := by decide +kernel
theorem dX7_takeFrom_0 : decode cX7_takeFrom 0 = .ok (.aload_n 0, 1) := by decide +kernel
theorem dX7_takeFrom_1 : decode cX7_takeFrom 1 = .ok (.aload_n 1, 1) := by decide +kernel
theorem dX7_takeFrom_2 : decode cX7_takeFrom 2 = .ok (.getfield 9, 3) := by decide +kernel
theorem dX7_takeFrom_5 : decode cX7_takeFrom 5 = .ok (.putfield 9, 3) := by decide +kernel
theorem dX7_takeFrom_8 : decode cX7_takeFrom 8 = .ok (.aload_n 0, 1) := by decide +kernel
theorem dX7_takeFrom_9 : decode cX7_takeFrom 9 = .ok (.aload_n 1, 1) := by decide +kernel
theorem dX7_takeFrom_10 : decode cX7_takeFrom 10 = .ok (.getfield 15, 3) := by decide +kernel
theorem dX7_takeFrom_13 : decode cX7_takeFrom 13 = .ok (.putfield 15, 3) := by decide +kernel
theorem dX7_takeFrom_16 : decode cX7_takeFrom 16 = .ok (.aload_n 0, 1) := by decide +kernel
theorem dX7_takeFrom_17 : decode cX7_takeFrom 17 = .ok (.aload_n 1, 1) := by decide +kernel
theorem dX7_takeFrom_18 : decode cX7_takeFrom 18 = .ok (.getfield 18, 3) := by decide +kernel
theorem dX7_takeFrom_21 : decode cX7_takeFrom 21 = .ok (.putfield 18, 3) := by decide +kernel
theorem dX7_takeFrom_24 : decode cX7_takeFrom 24 = .ok (.iconst 0, 1) := by decide +kernel
theorem dX7_takeFrom_25 : decode cX7_takeFrom 25 = .ok (.istore_n 2, 1) := by decide +kernel
theorem dX7_takeFrom_26 : decode cX7_takeFrom 26 = .ok (.iload_n 2, 1) := by decide +kernel
theorem dX7_takeFrom_27 : decode cX7_takeFrom 27 = .ok (.bipush 6, 2) := by decide +kernel
theorem dX7_takeFrom_29 : decode cX7_takeFrom 29 = .ok (.if_icmp .ge 33, 3) := by decide +kernel
theorem dX7_takeFrom_32 : decode cX7_takeFrom 32 = .ok (.aload_n 0, 1) := by decide +kernel
theorem dX7_takeFrom_33 : decode cX7_takeFrom 33 = .ok (.getfield 21, 3) := by decide +kernel
theorem dX7_takeFrom_36 : decode cX7_takeFrom 36 = .ok (.iload_n 2, 1) := by decide +kernel
theorem dX7_takeFrom_37 : decode cX7_takeFrom 37 = .ok (.aload_n 1, 1) := by decide +kernel
theorem dX7_takeFrom_38 : decode cX7_takeFrom 38 = .ok (.getfield 21, 3) := by decide +kernel
theorem dX7_takeFrom_41 : decode cX7_takeFrom 41 = .ok (.iload_n 2, 1) := by decide +kernel
theorem dX7_takeFrom_42 : decode cX7_takeFrom 42 = .ok (.iaload, 1) := by decide +kernel
theorem dX7_takeFrom_43 : decode cX7_takeFrom 43 = .ok (.iastore, 1) := by decide +kernel
theorem dX7_takeFrom_44 : decode cX7_takeFrom 44 = .ok (.aload_n 0, 1) := by decide +kernel
theorem dX7_takeFrom_45 : decode cX7_takeFrom 45 = .ok (.getfield 25, 3) := by decide +kernel
theorem dX7_takeFrom_48 : decode cX7_takeFrom 48 = .ok (.iload_n 2, 1) := by decide +kernel
theorem dX7_takeFrom_49 : decode cX7_takeFrom 49 = .ok (.aload_n 1, 1) := by decide +kernel
theorem dX7_takeFrom_50 : decode cX7_takeFrom 50 = .ok (.getfield 25, 3) := by decide +kernel
theorem dX7_takeFrom_53 : decode cX7_takeFrom 53 = .ok (.iload_n 2, 1) := by decide +kernel
theorem dX7_takeFrom_54 : decode cX7_takeFrom 54 = .ok (.iaload, 1) := by decide +kernel
theorem dX7_takeFrom_55 : decode cX7_takeFrom 55 = .ok (.iastore, 1) := by decide +kernel
theorem dX7_takeFrom_56 : decode cX7_takeFrom 56 = .ok (.iinc 2 1, 3) := by decide +kernel
theorem dX7_takeFrom_59 : decode cX7_takeFrom 59 = .ok (.goto (-33), 3) := by decide +kernel
theorem dX7_takeFrom_62 : decode cX7_takeFrom 62 = .ok (.return_, 1) := by decide +kernel
theorem dX7_store_0 : decode cX7_store 0 = .ok (.iload_n 1, 1) := by decide +kernel
theorem dX7_store_1 : decode cX7_store 1 = .ok (.invokestatic 28, 3) := by decide +kernel
theorem dX7_store_4 : decode cX7_store 4 = .ok (.ifCond .eq 25, 3) := by decide +kernel
theorem dX7_store_7 : decode cX7_store 7 = .ok (.aload_n 0, 1) := by decide +kernel
theorem dX7_store_8 : decode cX7_store 8 = .ok (.getfield 21, 3) := by decide +kernel
theorem dX7_store_11 : decode cX7_store 11 = .ok (.iload_n 1, 1) := by decide +kernel
theorem dX7_store_12 : decode cX7_store 12 = .ok (.aload_n 2, 1) := by decide +kernel
theorem dX7_store_13 : decode cX7_store 13 = .ok (.getfield 32, 3) := by decide +kernel
theorem dX7_store_16 : decode cX7_store 16 = .ok (.l2i, 1) := by decide +kernel
theorem dX7_store_17 : decode cX7_store 17 = .ok (.iastore, 1) := by decide +kernel
theorem dX7_store_18 : decode cX7_store 18 = .ok (.aload_n 0, 1) := by decide +kernel
theorem dX7_store_19 : decode cX7_store 19 = .ok (.getfield 25, 3) := by decide +kernel
theorem dX7_store_22 : decode cX7_store 22 = .ok (.iload_n 1, 1) := by decide +kernel
theorem dX7_store_23 : decode cX7_store 23 = .ok (.aload_n 2, 1) := by decide +kernel
theorem dX7_store_24 : decode cX7_store 24 = .ok (.getfield 38, 3) := by decide +kernel
theorem dX7_store_27 : decode cX7_store 27 = .ok (.l2i, 1) := by decide +kernel
theorem dX7_store_28 : decode cX7_store 28 = .ok (.iastore, 1) := by decide +kernel
theorem dX7_store_29 : decode cX7_store 29 = .ok (.return_, 1) := by decide +kernel
theorem dX7_stopAt_0 : decode cX7_stopAt 0 = .ok (.aload_n 0, 1) := by decide +kernel
theorem dX7_stopAt_1 : decode cX7_stopAt 1 = .ok (.iload_n 1, 1) := by decide +kernel
theorem dX7_stopAt_2 : decode cX7_stopAt 2 = .ok (.putfield 15, 3) := by decide +kernel
theorem dX7_stopAt_5 : decode cX7_stopAt 5 = .ok (.aload_n 0, 1) := by decide +kernel
theorem dX7_stopAt_6 : decode cX7_stopAt 6 = .ok (.iload_n 2, 1) := by decide +kernel
theorem dX7_stopAt_7 : decode cX7_stopAt 7 = .ok (.putfield 18, 3) := by decide +kernel
theorem dX7_stopAt_10 : decode cX7_stopAt 10 = .ok (.return_, 1) := by decide +kernel
theorem dX7_numeratorOf_0 : decode cX7_numeratorOf 0 = .ok (.iload_n 1, 1) := by decide +kernel
theorem dX7_numeratorOf_1 : decode cX7_numeratorOf 1 = .ok (.invokestatic 28, 3) := by decide +kernel
theorem dX7_numeratorOf_4 : decode cX7_numeratorOf 4 = .ok (.ifCond .eq 12, 3) := by decide +kernel
theorem dX7_numeratorOf_7 : decode cX7_numeratorOf 7 = .ok (.aload_n 0, 1) := by decide +kernel
theorem dX7_numeratorOf_8 : decode cX7_numeratorOf 8 = .ok (.getfield 21, 3) := by decide +kernel
theorem dX7_numeratorOf_11 : decode cX7_numeratorOf 11 = .ok (.iload_n 1, 1) := by decide +kernel
theorem dX7_numeratorOf_12 : decode cX7_numeratorOf 12 = .ok (.iaload, 1) := by decide +kernel
theorem dX7_numeratorOf_13 : decode cX7_numeratorOf 13 = .ok (.goto 4, 3) := by decide +kernel
theorem dX7_numeratorOf_16 : decode cX7_numeratorOf 16 = .ok (.iconst 0, 1) := by decide +kernel
theorem dX7_numeratorOf_17 : decode cX7_numeratorOf 17 = .ok (.ireturn, 1) := by decide +kernel
theorem dX7_denominatorOf_0 : decode cX7_denominatorOf 0 = .ok (.iload_n 1, 1) := by decide +kernel
theorem dX7_denominatorOf_1 : decode cX7_denominatorOf 1 = .ok (.invokestatic 28, 3) := by decide +kernel
theorem dX7_denominatorOf_4 : decode cX7_denominatorOf 4 = .ok (.ifCond .eq 12, 3) := by decide +kernel
theorem dX7_denominatorOf_7 : decode cX7_denominatorOf 7 = .ok (.aload_n 0, 1) := by decide +kernel
theorem dX7_denominatorOf_8 : decode cX7_denominatorOf 8 = .ok (.getfield 25, 3) := by decide +kernel
theorem dX7_denominatorOf_11 : decode cX7_denominatorOf 11 = .ok (.iload_n 1, 1) := by decide +kernel
theorem dX7_denominatorOf_12 : decode cX7_denominatorOf 12 = .ok (.iaload, 1) := by decide +kernel
theorem dX7_denominatorOf_13 : decode cX7_denominatorOf 13 = .ok (.goto 4, 3) := by decide +kernel
theorem dX7_denominatorOf_16 : decode cX7_denominatorOf 16 = .ok (.iconst 1, 1) := by decide +kernel
theorem dX7_denominatorOf_17 : decode cX7_denominatorOf 17 = .ok (.ireturn, 1) := by decide +kernel
theorem dX7_wholeOf_0 : decode cX7_wholeOf 0 = .ok (.iload_n 1, 1) := by decide +kernel
theorem dX7_wholeOf_1 : decode cX7_wholeOf 1 = .ok (.invokestatic 28, 3) := by decide +kernel
theorem dX7_wholeOf_4 : decode cX7_wholeOf 4 = .ok (.ifCond .eq 28, 3) := by decide +kernel
theorem dX7_wholeOf_7 : decode cX7_wholeOf 7 = .ok (.aload_n 0, 1) := by decide +kernel
theorem dX7_wholeOf_8 : decode cX7_wholeOf 8 = .ok (.getfield 25, 3) := by decide +kernel
theorem dX7_wholeOf_11 : decode cX7_wholeOf 11 = .ok (.iload_n 1, 1) := by decide +kernel
theorem dX7_wholeOf_12 : decode cX7_wholeOf 12 = .ok (.iaload, 1) := by decide +kernel
theorem dX7_wholeOf_13 : decode cX7_wholeOf 13 = .ok (.ifCond .le 19, 3) := by decide +kernel
theorem dX7_wholeOf_16 : decode cX7_wholeOf 16 = .ok (.aload_n 0, 1) := by decide +kernel
theorem dX7_wholeOf_17 : decode cX7_wholeOf 17 = .ok (.getfield 21, 3) := by decide +kernel
theorem dX7_wholeOf_20 : decode cX7_wholeOf 20 = .ok (.iload_n 1, 1) := by decide +kernel
theorem dX7_wholeOf_21 : decode cX7_wholeOf 21 = .ok (.iaload, 1) := by decide +kernel
theorem dX7_wholeOf_22 : decode cX7_wholeOf 22 = .ok (.aload_n 0, 1) := by decide +kernel
theorem dX7_wholeOf_23 : decode cX7_wholeOf 23 = .ok (.getfield 25, 3) := by decide +kernel
theorem dX7_wholeOf_26 : decode cX7_wholeOf 26 = .ok (.iload_n 1, 1) := by decide +kernel
theorem dX7_wholeOf_27 : decode cX7_wholeOf 27 = .ok (.iaload, 1) := by decide +kernel
theorem dX7_wholeOf_28 : decode cX7_wholeOf 28 = .ok (.idiv, 1) := by decide +kernel
theorem dX7_wholeOf_29 : decode cX7_wholeOf 29 = .ok (.goto 4, 3) := by decide +kernel
theorem dX7_wholeOf_32 : decode cX7_wholeOf 32 = .ok (.iconst 0, 1) := by decide +kernel
theorem dX7_wholeOf_33 : decode cX7_wholeOf 33 = .ok (.ireturn, 1) := by decide +kernel
theorem dX7_restOf_0 : decode cX7_restOf 0 = .ok (.iload_n 1, 1) := by decide +kernel
theorem dX7_restOf_1 : decode cX7_restOf 1 = .ok (.invokestatic 28, 3) := by decide +kernel
theorem dX7_restOf_4 : decode cX7_restOf 4 = .ok (.ifCond .eq 29, 3) := by decide +kernel
theorem dX7_restOf_7 : decode cX7_restOf 7 = .ok (.aload_n 0, 1) := by decide +kernel
theorem dX7_restOf_8 : decode cX7_restOf 8 = .ok (.getfield 25, 3) := by decide +kernel
theorem dX7_restOf_11 : decode cX7_restOf 11 = .ok (.iload_n 1, 1) := by decide +kernel
theorem dX7_restOf_12 : decode cX7_restOf 12 = .ok (.iaload, 1) := by decide +kernel
theorem dX7_restOf_13 : decode cX7_restOf 13 = .ok (.ifCond .le 20, 3) := by decide +kernel
theorem dX7_restOf_16 : decode cX7_restOf 16 = .ok (.aload_n 0, 1) := by decide +kernel
theorem dX7_restOf_17 : decode cX7_restOf 17 = .ok (.getfield 21, 3) := by decide +kernel
theorem dX7_restOf_20 : decode cX7_restOf 20 = .ok (.iload_n 1, 1) := by decide +kernel
theorem dX7_restOf_21 : decode cX7_restOf 21 = .ok (.iaload, 1) := by decide +kernel
theorem dX7_restOf_22 : decode cX7_restOf 22 = .ok (.aload_n 0, 1) := by decide +kernel
theorem dX7_restOf_23 : decode cX7_restOf 23 = .ok (.getfield 25, 3) := by decide +kernel
theorem dX7_restOf_26 : decode cX7_restOf 26 = .ok (.iload_n 1, 1) := by decide +kernel
theorem dX7_restOf_27 : decode cX7_restOf 27 = .ok (.iaload, 1) := by decide +kernel
theorem dX7_restOf_28 : decode cX7_restOf 28 = .ok (.irem, 1) := by decide +kernel
theorem dX7_restOf_29 : decode cX7_restOf 29 = .ok (.i2l, 1) := by decide +kernel
theorem dX7_restOf_30 : decode cX7_restOf 30 = .ok (.goto 4, 3) := by decide +kernel
theorem dX7_restOf_33 : decode cX7_restOf 33 = .ok (.lconst 0, 1) := by decide +kernel
theorem dX7_restOf_34 : decode cX7_restOf 34 = .ok (.lreturn, 1) := by decide +kernel
theorem dX7_asDouble_0 : decode cX7_asDouble 0 = .ok (.iload_n 1, 1) := by decide +kernel
theorem dX7_asDouble_1 : decode cX7_asDouble 1 = .ok (.invokestatic 28, 3) := by decide +kernel
theorem dX7_asDouble_4 : decode cX7_asDouble 4 = .ok (.ifCond .eq 30, 3) := by decide +kernel
theorem dX7_asDouble_7 : decode cX7_asDouble 7 = .ok (.aload_n 0, 1) := by decide +kernel
theorem dX7_asDouble_8 : decode cX7_asDouble 8 = .ok (.getfield 25, 3) := by decide +kernel
theorem dX7_asDouble_11 : decode cX7_asDouble 11 = .ok (.iload_n 1, 1) := by decide +kernel
theorem dX7_asDouble_12 : decode cX7_asDouble 12 = .ok (.iaload, 1) := by decide +kernel
theorem dX7_asDouble_13 : decode cX7_asDouble 13 = .ok (.ifCond .le 21, 3) := by decide +kernel
theorem dX7_asDouble_16 : decode cX7_asDouble 16 = .ok (.aload_n 0, 1) := by decide +kernel
theorem dX7_asDouble_17 : decode cX7_asDouble 17 = .ok (.getfield 21, 3) := by decide +kernel
theorem dX7_asDouble_20 : decode cX7_asDouble 20 = .ok (.iload_n 1, 1) := by decide +kernel
theorem dX7_asDouble_21 : decode cX7_asDouble 21 = .ok (.iaload, 1) := by decide +kernel
theorem dX7_asDouble_22 : decode cX7_asDouble 22 = .ok (.i2d, 1) := by decide +kernel
theorem dX7_asDouble_23 : decode cX7_asDouble 23 = .ok (.aload_n 0, 1) := by decide +kernel
theorem dX7_asDouble_24 : decode cX7_asDouble 24 = .ok (.getfield 25, 3) := by decide +kernel
theorem dX7_asDouble_27 : decode cX7_asDouble 27 = .ok (.iload_n 1, 1) := by decide +kernel
theorem dX7_asDouble_28 : decode cX7_asDouble 28 = .ok (.iaload, 1) := by decide +kernel
theorem dX7_asDouble_29 : decode cX7_asDouble 29 = .ok (.i2d, 1) := by decide +kernel
theorem dX7_asDouble_30 : decode cX7_asDouble 30 = .ok (.ddiv, 1) := by decide +kernel
theorem dX7_asDouble_31 : decode cX7_asDouble 31 = .ok (.goto 4, 3) := by decide +kernel
theorem dX7_asDouble_34 : decode cX7_asDouble 34 = .ok (.dconst 0, 1) := by decide +kernel
theorem dX7_asDouble_35 : decode cX7_asDouble 35 = .ok (.dreturn, 1) := by decide +kernel
theorem dX8_init_0 : decode cX8_init 0 = .ok (.aload_n 0, 1) := by decide +kernel
theorem dX8_init_1 : decode cX8_init 1 = .ok (.invokespecial 3, 3) := by decide +kernel
theorem dX8_init_4 : decode cX8_init 4 = .ok (.aload_n 0, 1) := by decide +kernel
theorem dX8_init_5 : decode cX8_init 5 = .ok (.iconst 1, 1) := by decide +kernel
theorem dX8_init_6 : decode cX8_init 6 = .ok (.putfield 11, 3) := by decide +kernel
theorem dX8_init_9 : decode cX8_init 9 = .ok (.aload_n 0, 1) := by decide +kernel
theorem dX8_init_10 : decode cX8_init 10 = .ok (.iconst 0, 1) := by decide +kernel
theorem dX8_init_11 : decode cX8_init 11 = .ok (.putfield 15, 3) := by decide +kernel
theorem dX8_init_14 : decode cX8_init 14 = .ok (.return_, 1) := by decide +kernel
theorem dX8_begin_0 : decode cX8_begin 0 = .ok (.aload_n 0, 1) := by decide +kernel
theorem dX8_begin_1 : decode cX8_begin 1 = .ok (.iconst 1, 1) := by decide +kernel
theorem dX8_begin_2 : decode cX8_begin 2 = .ok (.putfield 11, 3) := by decide +kernel
theorem dX8_begin_5 : decode cX8_begin 5 = .ok (.aload_n 0, 1) := by decide +kernel
theorem dX8_begin_6 : decode cX8_begin 6 = .ok (.iconst 0, 1) := by decide +kernel
theorem dX8_begin_7 : decode cX8_begin 7 = .ok (.putfield 15, 3) := by decide +kernel
theorem dX8_begin_10 : decode cX8_begin 10 = .ok (.return_, 1) := by decide +kernel
theorem dX8_take_0 : decode cX8_take 0 = .ok (.aload_n 0, 1) := by decide +kernel
theorem dX8_take_1 : decode cX8_take 1 = .ok (.iload_n 1, 1) := by decide +kernel
theorem dX8_take_2 : decode cX8_take 2 = .ok (.invokevirtual 18, 3) := by decide +kernel
theorem dX8_take_5 : decode cX8_take 5 = .ok (.istore_n 2, 1) := by decide +kernel
theorem dX8_take_6 : decode cX8_take 6 = .ok (.aload_n 0, 1) := by decide +kernel
theorem dX8_take_7 : decode cX8_take 7 = .ok (.iload_n 2, 1) := by decide +kernel
theorem dX8_take_8 : decode cX8_take 8 = .ok (.aload_n 0, 1) := by decide +kernel
theorem dX8_take_9 : decode cX8_take 9 = .ok (.getfield 11, 3) := by decide +kernel
theorem dX8_take_12 : decode cX8_take 12 = .ok (.if_icmp .ne 12, 3) := by decide +kernel
theorem dX8_take_15 : decode cX8_take 15 = .ok (.aload_n 0, 1) := by decide +kernel
theorem dX8_take_16 : decode cX8_take 16 = .ok (.getfield 15, 3) := by decide +kernel
theorem dX8_take_19 : decode cX8_take 19 = .ok (.iconst 1, 1) := by decide +kernel
theorem dX8_take_20 : decode cX8_take 20 = .ok (.iadd, 1) := by decide +kernel
theorem dX8_take_21 : decode cX8_take 21 = .ok (.goto 4, 3) := by decide +kernel
theorem dX8_take_24 : decode cX8_take 24 = .ok (.iconst 1, 1) := by decide +kernel
theorem dX8_take_25 : decode cX8_take 25 = .ok (.putfield 15, 3) := by decide +kernel
theorem dX8_take_28 : decode cX8_take 28 = .ok (.aload_n 0, 1) := by decide +kernel
theorem dX8_take_29 : decode cX8_take 29 = .ok (.iload_n 2, 1) := by decide +kernel
theorem dX8_take_30 : decode cX8_take 30 = .ok (.putfield 11, 3) := by decide +kernel
theorem dX8_take_33 : decode cX8_take 33 = .ok (.iload_n 2, 1) := by decide +kernel
theorem dX8_take_34 : decode cX8_take 34 = .ok (.ifCond .eq 7, 3) := by decide +kernel
theorem dX8_take_37 : decode cX8_take 37 = .ok (.iconst 1, 1) := by decide +kernel
theorem dX8_take_38 : decode cX8_take 38 = .ok (.goto 4, 3) := by decide +kernel
theorem dX8_take_41 : decode cX8_take 41 = .ok (.iconst 0, 1) := by decide +kernel
theorem dX8_take_42 : decode cX8_take 42 = .ok (.ireturn, 1) := by decide +kernel
theorem dX8_mayEnd_0 : decode cX8_mayEnd 0 = .ok (.aload_n 0, 1) := by decide +kernel
theorem dX8_mayEnd_1 : decode cX8_mayEnd 1 = .ok (.getfield 11, 3) := by decide +kernel
theorem dX8_mayEnd_4 : decode cX8_mayEnd 4 = .ok (.bipush 7, 2) := by decide +kernel
theorem dX8_mayEnd_6 : decode cX8_mayEnd 6 = .ok (.if_icmp .eq 30, 3) := by decide +kernel
theorem dX8_mayEnd_9 : decode cX8_mayEnd 9 = .ok (.aload_n 0, 1) := by decide +kernel
theorem dX8_mayEnd_10 : decode cX8_mayEnd 10 = .ok (.getfield 11, 3) := by decide +kernel
theorem dX8_mayEnd_13 : decode cX8_mayEnd 13 = .ok (.bipush 8, 2) := by decide +kernel
theorem dX8_mayEnd_15 : decode cX8_mayEnd 15 = .ok (.if_icmp .eq 21, 3) := by decide +kernel
theorem dX8_mayEnd_18 : decode cX8_mayEnd 18 = .ok (.aload_n 0, 1) := by decide +kernel
theorem dX8_mayEnd_19 : decode cX8_mayEnd 19 = .ok (.getfield 11, 3) := by decide +kernel
theorem dX8_mayEnd_22 : decode cX8_mayEnd 22 = .ok (.bipush 10, 2) := by decide +kernel
theorem dX8_mayEnd_24 : decode cX8_mayEnd 24 = .ok (.if_icmp .eq 12, 3) := by decide +kernel
theorem dX8_mayEnd_27 : decode cX8_mayEnd 27 = .ok (.aload_n 0, 1) := by decide +kernel
theorem dX8_mayEnd_28 : decode cX8_mayEnd 28 = .ok (.getfield 11, 3) := by decide +kernel
theorem dX8_mayEnd_31 : decode cX8_mayEnd 31 = .ok (.bipush 13, 2) := by decide +kernel
theorem dX8_mayEnd_33 : decode cX8_mayEnd 33 = .ok (.if_icmp .ne 7, 3) := by decide +kernel
theorem dX8_mayEnd_36 : decode cX8_mayEnd 36 = .ok (.iconst 1, 1) := by decide +kernel
theorem dX8_mayEnd_37 : decode cX8_mayEnd 37 = .ok (.goto 4, 3) := by decide +kernel
theorem dX8_mayEnd_40 : decode cX8_mayEnd 40 = .ok (.iconst 0, 1) := by decide +kernel
theorem dX8_mayEnd_41 : decode cX8_mayEnd 41 = .ok (.ireturn, 1) := by decide +kernel
theorem dX8_expectedAfter_0 : decode cX8_expectedAfter 0 = .ok (.aload_n 0, 1) := by decide +kernel
theorem dX8_expectedAfter_1 : decode cX8_expectedAfter 1 = .ok (.getfield 11, 3) := by decide +kernel
theorem dX8_expectedAfter_4 : decode cX8_expectedAfter 4 = .ok (.tableswitch 202 1 13 #[68, 87, 120, 130, 163, 202, 202, 202, 202, 202, 202, 202, 186], 68) := by decide +kernel
theorem dX8_expectedAfter_72 : decode cX8_expectedAfter 72 = .ok (.iload_n 1, 1) := by decide +kernel
theorem dX8_expectedAfter_73 : decode cX8_expectedAfter 73 = .ok (.bipush 98, 2) := by decide +kernel
theorem dX8_expectedAfter_75 : decode cX8_expectedAfter 75 = .ok (.if_icmp .ne 7, 3) := by decide +kernel
theorem dX8_expectedAfter_78 : decode cX8_expectedAfter 78 = .ok (.iconst 4, 1) := by decide +kernel
theorem dX8_expectedAfter_79 : decode cX8_expectedAfter 79 = .ok (.goto 11, 3) := by decide +kernel
theorem dX8_expectedAfter_82 : decode cX8_expectedAfter 82 = .ok (.iload_n 1, 1) := by decide +kernel
theorem dX8_expectedAfter_83 : decode cX8_expectedAfter 83 = .ok (.invokestatic 22, 3) := by decide +kernel
theorem dX8_expectedAfter_86 : decode cX8_expectedAfter 86 = .ok (.iconst 2, 1) := by decide +kernel
theorem dX8_expectedAfter_87 : decode cX8_expectedAfter 87 = .ok (.invokestatic 26, 3) := by decide +kernel
theorem dX8_expectedAfter_90 : decode cX8_expectedAfter 90 = .ok (.ireturn, 1) := by decide +kernel
theorem dX8_expectedAfter_91 : decode cX8_expectedAfter 91 = .ok (.iload_n 1, 1) := by decide +kernel
theorem dX8_expectedAfter_92 : decode cX8_expectedAfter 92 = .ok (.bipush 61, 2) := by decide +kernel
theorem dX8_expectedAfter_94 : decode cX8_expectedAfter 94 = .ok (.if_icmp .ne 8, 3) := by decide +kernel
theorem dX8_expectedAfter_97 : decode cX8_expectedAfter 97 = .ok (.bipush 6, 2) := by decide +kernel
theorem dX8_expectedAfter_99 : decode cX8_expectedAfter 99 = .ok (.goto 24, 3) := by decide +kernel
theorem dX8_expectedAfter_102 : decode cX8_expectedAfter 102 = .ok (.iload_n 1, 1) := by decide +kernel
theorem dX8_expectedAfter_103 : decode cX8_expectedAfter 103 = .ok (.bipush 43, 2) := by decide +kernel
theorem dX8_expectedAfter_105 : decode cX8_expectedAfter 105 = .ok (.if_icmp .eq 9, 3) := by decide +kernel
theorem dX8_expectedAfter_108 : decode cX8_expectedAfter 108 = .ok (.iload_n 1, 1) := by decide +kernel
theorem dX8_expectedAfter_109 : decode cX8_expectedAfter 109 = .ok (.bipush 45, 2) := by decide +kernel
theorem dX8_expectedAfter_111 : decode cX8_expectedAfter 111 = .ok (.if_icmp .ne 7, 3) := by decide +kernel
theorem dX8_expectedAfter_114 : decode cX8_expectedAfter 114 = .ok (.iconst 1, 1) := by decide +kernel
theorem dX8_expectedAfter_115 : decode cX8_expectedAfter 115 = .ok (.goto 4, 3) := by decide +kernel
theorem dX8_expectedAfter_118 : decode cX8_expectedAfter 118 = .ok (.iconst 0, 1) := by decide +kernel
theorem dX8_expectedAfter_119 : decode cX8_expectedAfter 119 = .ok (.iconst 3, 1) := by decide +kernel
theorem dX8_expectedAfter_120 : decode cX8_expectedAfter 120 = .ok (.invokestatic 26, 3) := by decide +kernel
theorem dX8_expectedAfter_123 : decode cX8_expectedAfter 123 = .ok (.ireturn, 1) := by decide +kernel
theorem dX8_expectedAfter_124 : decode cX8_expectedAfter 124 = .ok (.iload_n 1, 1) := by decide +kernel
theorem dX8_expectedAfter_125 : decode cX8_expectedAfter 125 = .ok (.invokestatic 22, 3) := by decide +kernel
theorem dX8_expectedAfter_128 : decode cX8_expectedAfter 128 = .ok (.bipush 13, 2) := by decide +kernel
theorem dX8_expectedAfter_130 : decode cX8_expectedAfter 130 = .ok (.invokestatic 26, 3) := by decide +kernel
theorem dX8_expectedAfter_133 : decode cX8_expectedAfter 133 = .ok (.ireturn, 1) := by decide +kernel
theorem dX8_expectedAfter_134 : decode cX8_expectedAfter 134 = .ok (.iload_n 1, 1) := by decide +kernel
theorem dX8_expectedAfter_135 : decode cX8_expectedAfter 135 = .ok (.bipush 49, 2) := by decide +kernel
theorem dX8_expectedAfter_137 : decode cX8_expectedAfter 137 = .ok (.if_icmp .ne 7, 3) := by decide +kernel
theorem dX8_expectedAfter_140 : decode cX8_expectedAfter 140 = .ok (.iconst 5, 1) := by decide +kernel
theorem dX8_expectedAfter_141 : decode cX8_expectedAfter 141 = .ok (.goto 25, 3) := by decide +kernel
theorem dX8_expectedAfter_144 : decode cX8_expectedAfter 144 = .ok (.iload_n 1, 1) := by decide +kernel
theorem dX8_expectedAfter_145 : decode cX8_expectedAfter 145 = .ok (.bipush 50, 2) := by decide +kernel
theorem dX8_expectedAfter_147 : decode cX8_expectedAfter 147 = .ok (.if_icmp .lt 13, 3) := by decide +kernel
theorem dX8_expectedAfter_150 : decode cX8_expectedAfter 150 = .ok (.iload_n 1, 1) := by decide +kernel
theorem dX8_expectedAfter_151 : decode cX8_expectedAfter 151 = .ok (.bipush 57, 2) := by decide +kernel
theorem dX8_expectedAfter_153 : decode cX8_expectedAfter 153 = .ok (.if_icmp .gt 7, 3) := by decide +kernel
theorem dX8_expectedAfter_156 : decode cX8_expectedAfter 156 = .ok (.iconst 1, 1) := by decide +kernel
theorem dX8_expectedAfter_157 : decode cX8_expectedAfter 157 = .ok (.goto 4, 3) := by decide +kernel
theorem dX8_expectedAfter_160 : decode cX8_expectedAfter 160 = .ok (.iconst 0, 1) := by decide +kernel
theorem dX8_expectedAfter_161 : decode cX8_expectedAfter 161 = .ok (.bipush 13, 2) := by decide +kernel
theorem dX8_expectedAfter_163 : decode cX8_expectedAfter 163 = .ok (.invokestatic 26, 3) := by decide +kernel
theorem dX8_expectedAfter_166 : decode cX8_expectedAfter 166 = .ok (.ireturn, 1) := by decide +kernel
theorem dX8_expectedAfter_167 : decode cX8_expectedAfter 167 = .ok (.iload_n 1, 1) := by decide +kernel
theorem dX8_expectedAfter_168 : decode cX8_expectedAfter 168 = .ok (.bipush 48, 2) := by decide +kernel
theorem dX8_expectedAfter_170 : decode cX8_expectedAfter 170 = .ok (.if_icmp .lt 13, 3) := by decide +kernel
theorem dX8_expectedAfter_173 : decode cX8_expectedAfter 173 = .ok (.iload_n 1, 1) := by decide +kernel
theorem dX8_expectedAfter_174 : decode cX8_expectedAfter 174 = .ok (.bipush 54, 2) := by decide +kernel
theorem dX8_expectedAfter_176 : decode cX8_expectedAfter 176 = .ok (.if_icmp .gt 7, 3) := by decide +kernel
theorem dX8_expectedAfter_179 : decode cX8_expectedAfter 179 = .ok (.iconst 1, 1) := by decide +kernel
theorem dX8_expectedAfter_180 : decode cX8_expectedAfter 180 = .ok (.goto 4, 3) := by decide +kernel
theorem dX8_expectedAfter_183 : decode cX8_expectedAfter 183 = .ok (.iconst 0, 1) := by decide +kernel
theorem dX8_expectedAfter_184 : decode cX8_expectedAfter 184 = .ok (.bipush 13, 2) := by decide +kernel
theorem dX8_expectedAfter_186 : decode cX8_expectedAfter 186 = .ok (.invokestatic 26, 3) := by decide +kernel
theorem dX8_expectedAfter_189 : decode cX8_expectedAfter 189 = .ok (.ireturn, 1) := by decide +kernel
theorem dX8_expectedAfter_190 : decode cX8_expectedAfter 190 = .ok (.iload_n 1, 1) := by decide +kernel
theorem dX8_expectedAfter_191 : decode cX8_expectedAfter 191 = .ok (.bipush 59, 2) := by decide +kernel
theorem dX8_expectedAfter_193 : decode cX8_expectedAfter 193 = .ok (.if_icmp .ne 7, 3) := by decide +kernel
theorem dX8_expectedAfter_196 : decode cX8_expectedAfter 196 = .ok (.iconst 1, 1) := by decide +kernel
theorem dX8_expectedAfter_197 : decode cX8_expectedAfter 197 = .ok (.goto 4, 3) := by decide +kernel
theorem dX8_expectedAfter_200 : decode cX8_expectedAfter 200 = .ok (.iconst 0, 1) := by decide +kernel
theorem dX8_expectedAfter_201 : decode cX8_expectedAfter 201 = .ok (.iconst 1, 1) := by decide +kernel
theorem dX8_expectedAfter_202 : decode cX8_expectedAfter 202 = .ok (.invokestatic 26, 3) := by decide +kernel
theorem dX8_expectedAfter_205 : decode cX8_expectedAfter 205 = .ok (.ireturn, 1) := by decide +kernel
theorem dX8_expectedAfter_206 : decode cX8_expectedAfter 206 = .ok (.aload_n 0, 1) := by decide +kernel
theorem dX8_expectedAfter_207 : decode cX8_expectedAfter 207 = .ok (.iload_n 1, 1) := by decide +kernel
theorem dX8_expectedAfter_208 : decode cX8_expectedAfter 208 = .ok (.invokevirtual 30, 3) := by decide +kernel
theorem dX8_expectedAfter_211 : decode cX8_expectedAfter 211 = .ok (.ireturn, 1) := by decide +kernel
theorem dX8_expectedInNumber_0 : decode cX8_expectedInNumber 0 = .ok (.iload_n 1, 1) := by decide +kernel
theorem dX8_expectedInNumber_1 : decode cX8_expectedInNumber 1 = .ok (.invokestatic 33, 3) := by decide +kernel
theorem dX8_expectedInNumber_4 : decode cX8_expectedInNumber 4 = .ok (.ifCond .lt 7, 3) := by decide +kernel
theorem dX8_expectedInNumber_7 : decode cX8_expectedInNumber 7 = .ok (.iconst 1, 1) := by decide +kernel
theorem dX8_expectedInNumber_8 : decode cX8_expectedInNumber 8 = .ok (.goto 4, 3) := by decide +kernel
theorem dX8_expectedInNumber_11 : decode cX8_expectedInNumber 11 = .ok (.iconst 0, 1) := by decide +kernel
theorem dX8_expectedInNumber_12 : decode cX8_expectedInNumber 12 = .ok (.istore_n 2, 1) := by decide +kernel
theorem dX8_expectedInNumber_13 : decode cX8_expectedInNumber 13 = .ok (.aload_n 0, 1) := by decide +kernel
theorem dX8_expectedInNumber_14 : decode cX8_expectedInNumber 14 = .ok (.getfield 11, 3) := by decide +kernel
theorem dX8_expectedInNumber_17 : decode cX8_expectedInNumber 17 = .ok (.tableswitch 256 6 12 #[43, 61, 88, 139, 157, 207, 214], 43) := by decide +kernel
theorem dX8_expectedInNumber_60 : decode cX8_expectedInNumber 60 = .ok (.iload_n 1, 1) := by decide +kernel
theorem dX8_expectedInNumber_61 : decode cX8_expectedInNumber 61 = .ok (.bipush 48, 2) := by decide +kernel
theorem dX8_expectedInNumber_63 : decode cX8_expectedInNumber 63 = .ok (.if_icmp .ne 8, 3) := by decide +kernel
theorem dX8_expectedInNumber_66 : decode cX8_expectedInNumber 66 = .ok (.bipush 7, 2) := by decide +kernel
theorem dX8_expectedInNumber_68 : decode cX8_expectedInNumber 68 = .ok (.goto 9, 3) := by decide +kernel
theorem dX8_expectedInNumber_71 : decode cX8_expectedInNumber 71 = .ok (.iload_n 2, 1) := by decide +kernel
theorem dX8_expectedInNumber_72 : decode cX8_expectedInNumber 72 = .ok (.bipush 8, 2) := by decide +kernel
theorem dX8_expectedInNumber_74 : decode cX8_expectedInNumber 74 = .ok (.invokestatic 26, 3) := by decide +kernel
theorem dX8_expectedInNumber_77 : decode cX8_expectedInNumber 77 = .ok (.ireturn, 1) := by decide +kernel
theorem dX8_expectedInNumber_78 : decode cX8_expectedInNumber 78 = .ok (.iload_n 1, 1) := by decide +kernel
theorem dX8_expectedInNumber_79 : decode cX8_expectedInNumber 79 = .ok (.bipush 46, 2) := by decide +kernel
theorem dX8_expectedInNumber_81 : decode cX8_expectedInNumber 81 = .ok (.if_icmp .ne 8, 3) := by decide +kernel
theorem dX8_expectedInNumber_84 : decode cX8_expectedInNumber 84 = .ok (.bipush 9, 2) := by decide +kernel
theorem dX8_expectedInNumber_86 : decode cX8_expectedInNumber 86 = .ok (.goto 18, 3) := by decide +kernel
theorem dX8_expectedInNumber_89 : decode cX8_expectedInNumber 89 = .ok (.iload_n 1, 1) := by decide +kernel
theorem dX8_expectedInNumber_90 : decode cX8_expectedInNumber 90 = .ok (.bipush 59, 2) := by decide +kernel
theorem dX8_expectedInNumber_92 : decode cX8_expectedInNumber 92 = .ok (.if_icmp .ne 7, 3) := by decide +kernel
theorem dX8_expectedInNumber_95 : decode cX8_expectedInNumber 95 = .ok (.iconst 1, 1) := by decide +kernel
theorem dX8_expectedInNumber_96 : decode cX8_expectedInNumber 96 = .ok (.goto 4, 3) := by decide +kernel
theorem dX8_expectedInNumber_99 : decode cX8_expectedInNumber 99 = .ok (.iconst 0, 1) := by decide +kernel
theorem dX8_expectedInNumber_100 : decode cX8_expectedInNumber 100 = .ok (.iconst 1, 1) := by decide +kernel
theorem dX8_expectedInNumber_101 : decode cX8_expectedInNumber 101 = .ok (.invokestatic 26, 3) := by decide +kernel
theorem dX8_expectedInNumber_104 : decode cX8_expectedInNumber 104 = .ok (.ireturn, 1) := by decide +kernel
theorem dX8_expectedInNumber_105 : decode cX8_expectedInNumber 105 = .ok (.iload_n 2, 1) := by decide +kernel
theorem dX8_expectedInNumber_106 : decode cX8_expectedInNumber 106 = .ok (.ifCond .eq 23, 3) := by decide +kernel
theorem dX8_expectedInNumber_109 : decode cX8_expectedInNumber 109 = .ok (.aload_n 0, 1) := by decide +kernel
theorem dX8_expectedInNumber_110 : decode cX8_expectedInNumber 110 = .ok (.getfield 15, 3) := by decide +kernel
theorem dX8_expectedInNumber_113 : decode cX8_expectedInNumber 113 = .ok (.bipush 8, 2) := by decide +kernel
theorem dX8_expectedInNumber_115 : decode cX8_expectedInNumber 115 = .ok (.if_icmp .ge 7, 3) := by decide +kernel
theorem dX8_expectedInNumber_118 : decode cX8_expectedInNumber 118 = .ok (.iconst 1, 1) := by decide +kernel
theorem dX8_expectedInNumber_119 : decode cX8_expectedInNumber 119 = .ok (.goto 4, 3) := by decide +kernel
theorem dX8_expectedInNumber_122 : decode cX8_expectedInNumber 122 = .ok (.iconst 0, 1) := by decide +kernel
theorem dX8_expectedInNumber_123 : decode cX8_expectedInNumber 123 = .ok (.bipush 8, 2) := by decide +kernel
theorem dX8_expectedInNumber_125 : decode cX8_expectedInNumber 125 = .ok (.invokestatic 26, 3) := by decide +kernel
theorem dX8_expectedInNumber_128 : decode cX8_expectedInNumber 128 = .ok (.ireturn, 1) := by decide +kernel
theorem dX8_expectedInNumber_129 : decode cX8_expectedInNumber 129 = .ok (.iload_n 1, 1) := by decide +kernel
theorem dX8_expectedInNumber_130 : decode cX8_expectedInNumber 130 = .ok (.bipush 46, 2) := by decide +kernel
theorem dX8_expectedInNumber_132 : decode cX8_expectedInNumber 132 = .ok (.if_icmp .ne 8, 3) := by decide +kernel
theorem dX8_expectedInNumber_135 : decode cX8_expectedInNumber 135 = .ok (.bipush 9, 2) := by decide +kernel
theorem dX8_expectedInNumber_137 : decode cX8_expectedInNumber 137 = .ok (.goto 18, 3) := by decide +kernel
theorem dX8_expectedInNumber_140 : decode cX8_expectedInNumber 140 = .ok (.iload_n 1, 1) := by decide +kernel
theorem dX8_expectedInNumber_141 : decode cX8_expectedInNumber 141 = .ok (.bipush 59, 2) := by decide +kernel
theorem dX8_expectedInNumber_143 : decode cX8_expectedInNumber 143 = .ok (.if_icmp .ne 7, 3) := by decide +kernel
theorem dX8_expectedInNumber_146 : decode cX8_expectedInNumber 146 = .ok (.iconst 1, 1) := by decide +kernel
theorem dX8_expectedInNumber_147 : decode cX8_expectedInNumber 147 = .ok (.goto 4, 3) := by decide +kernel
theorem dX8_expectedInNumber_150 : decode cX8_expectedInNumber 150 = .ok (.iconst 0, 1) := by decide +kernel
theorem dX8_expectedInNumber_151 : decode cX8_expectedInNumber 151 = .ok (.iconst 1, 1) := by decide +kernel
theorem dX8_expectedInNumber_152 : decode cX8_expectedInNumber 152 = .ok (.invokestatic 26, 3) := by decide +kernel
theorem dX8_expectedInNumber_155 : decode cX8_expectedInNumber 155 = .ok (.ireturn, 1) := by decide +kernel
theorem dX8_expectedInNumber_156 : decode cX8_expectedInNumber 156 = .ok (.iload_n 1, 1) := by decide +kernel
theorem dX8_expectedInNumber_157 : decode cX8_expectedInNumber 157 = .ok (.bipush 40, 2) := by decide +kernel
theorem dX8_expectedInNumber_159 : decode cX8_expectedInNumber 159 = .ok (.if_icmp .ne 8, 3) := by decide +kernel
theorem dX8_expectedInNumber_162 : decode cX8_expectedInNumber 162 = .ok (.bipush 11, 2) := by decide +kernel
theorem dX8_expectedInNumber_164 : decode cX8_expectedInNumber 164 = .ok (.goto 9, 3) := by decide +kernel
theorem dX8_expectedInNumber_167 : decode cX8_expectedInNumber 167 = .ok (.iload_n 2, 1) := by decide +kernel
theorem dX8_expectedInNumber_168 : decode cX8_expectedInNumber 168 = .ok (.bipush 10, 2) := by decide +kernel
theorem dX8_expectedInNumber_170 : decode cX8_expectedInNumber 170 = .ok (.invokestatic 26, 3) := by decide +kernel
theorem dX8_expectedInNumber_173 : decode cX8_expectedInNumber 173 = .ok (.ireturn, 1) := by decide +kernel
theorem dX8_expectedInNumber_174 : decode cX8_expectedInNumber 174 = .ok (.iload_n 2, 1) := by decide +kernel
theorem dX8_expectedInNumber_175 : decode cX8_expectedInNumber 175 = .ok (.ifCond .eq 22, 3) := by decide +kernel
theorem dX8_expectedInNumber_178 : decode cX8_expectedInNumber 178 = .ok (.aload_n 0, 1) := by decide +kernel
theorem dX8_expectedInNumber_179 : decode cX8_expectedInNumber 179 = .ok (.getfield 15, 3) := by decide +kernel
theorem dX8_expectedInNumber_182 : decode cX8_expectedInNumber 182 = .ok (.iconst 4, 1) := by decide +kernel
theorem dX8_expectedInNumber_183 : decode cX8_expectedInNumber 183 = .ok (.if_icmp .ge 7, 3) := by decide +kernel
theorem dX8_expectedInNumber_186 : decode cX8_expectedInNumber 186 = .ok (.iconst 1, 1) := by decide +kernel
theorem dX8_expectedInNumber_187 : decode cX8_expectedInNumber 187 = .ok (.goto 4, 3) := by decide +kernel
theorem dX8_expectedInNumber_190 : decode cX8_expectedInNumber 190 = .ok (.iconst 0, 1) := by decide +kernel
theorem dX8_expectedInNumber_191 : decode cX8_expectedInNumber 191 = .ok (.bipush 10, 2) := by decide +kernel
theorem dX8_expectedInNumber_193 : decode cX8_expectedInNumber 193 = .ok (.invokestatic 26, 3) := by decide +kernel
theorem dX8_expectedInNumber_196 : decode cX8_expectedInNumber 196 = .ok (.ireturn, 1) := by decide +kernel
theorem dX8_expectedInNumber_197 : decode cX8_expectedInNumber 197 = .ok (.iload_n 1, 1) := by decide +kernel
theorem dX8_expectedInNumber_198 : decode cX8_expectedInNumber 198 = .ok (.bipush 40, 2) := by decide +kernel
theorem dX8_expectedInNumber_200 : decode cX8_expectedInNumber 200 = .ok (.if_icmp .ne 8, 3) := by decide +kernel
theorem dX8_expectedInNumber_203 : decode cX8_expectedInNumber 203 = .ok (.bipush 11, 2) := by decide +kernel
theorem dX8_expectedInNumber_205 : decode cX8_expectedInNumber 205 = .ok (.goto 18, 3) := by decide +kernel
theorem dX8_expectedInNumber_208 : decode cX8_expectedInNumber 208 = .ok (.iload_n 1, 1) := by decide +kernel
theorem dX8_expectedInNumber_209 : decode cX8_expectedInNumber 209 = .ok (.bipush 59, 2) := by decide +kernel
theorem dX8_expectedInNumber_211 : decode cX8_expectedInNumber 211 = .ok (.if_icmp .ne 7, 3) := by decide +kernel
theorem dX8_expectedInNumber_214 : decode cX8_expectedInNumber 214 = .ok (.iconst 1, 1) := by decide +kernel
theorem dX8_expectedInNumber_215 : decode cX8_expectedInNumber 215 = .ok (.goto 4, 3) := by decide +kernel
theorem dX8_expectedInNumber_218 : decode cX8_expectedInNumber 218 = .ok (.iconst 0, 1) := by decide +kernel
theorem dX8_expectedInNumber_219 : decode cX8_expectedInNumber 219 = .ok (.iconst 1, 1) := by decide +kernel
theorem dX8_expectedInNumber_220 : decode cX8_expectedInNumber 220 = .ok (.invokestatic 26, 3) := by decide +kernel
theorem dX8_expectedInNumber_223 : decode cX8_expectedInNumber 223 = .ok (.ireturn, 1) := by decide +kernel
theorem dX8_expectedInNumber_224 : decode cX8_expectedInNumber 224 = .ok (.iload_n 2, 1) := by decide +kernel
theorem dX8_expectedInNumber_225 : decode cX8_expectedInNumber 225 = .ok (.bipush 12, 2) := by decide +kernel
theorem dX8_expectedInNumber_227 : decode cX8_expectedInNumber 227 = .ok (.invokestatic 26, 3) := by decide +kernel
theorem dX8_expectedInNumber_230 : decode cX8_expectedInNumber 230 = .ok (.ireturn, 1) := by decide +kernel
theorem dX8_expectedInNumber_231 : decode cX8_expectedInNumber 231 = .ok (.iload_n 2, 1) := by decide +kernel
theorem dX8_expectedInNumber_232 : decode cX8_expectedInNumber 232 = .ok (.ifCond .eq 24, 3) := by decide +kernel
theorem dX8_expectedInNumber_235 : decode cX8_expectedInNumber 235 = .ok (.aload_n 0, 1) := by decide +kernel
theorem dX8_expectedInNumber_236 : decode cX8_expectedInNumber 236 = .ok (.getfield 15, 3) := by decide +kernel
theorem dX8_expectedInNumber_239 : decode cX8_expectedInNumber 239 = .ok (.iconst 4, 1) := by decide +kernel
theorem dX8_expectedInNumber_240 : decode cX8_expectedInNumber 240 = .ok (.if_icmp .ge 7, 3) := by decide +kernel
theorem dX8_expectedInNumber_243 : decode cX8_expectedInNumber 243 = .ok (.iconst 1, 1) := by decide +kernel
theorem dX8_expectedInNumber_244 : decode cX8_expectedInNumber 244 = .ok (.goto 4, 3) := by decide +kernel
theorem dX8_expectedInNumber_247 : decode cX8_expectedInNumber 247 = .ok (.iconst 0, 1) := by decide +kernel
theorem dX8_expectedInNumber_248 : decode cX8_expectedInNumber 248 = .ok (.bipush 12, 2) := by decide +kernel
theorem dX8_expectedInNumber_250 : decode cX8_expectedInNumber 250 = .ok (.invokestatic 26, 3) := by decide +kernel
theorem dX8_expectedInNumber_253 : decode cX8_expectedInNumber 253 = .ok (.goto 19, 3) := by decide +kernel
theorem dX8_expectedInNumber_256 : decode cX8_expectedInNumber 256 = .ok (.iload_n 1, 1) := by decide +kernel
theorem dX8_expectedInNumber_257 : decode cX8_expectedInNumber 257 = .ok (.bipush 41, 2) := by decide +kernel
theorem dX8_expectedInNumber_259 : decode cX8_expectedInNumber 259 = .ok (.if_icmp .ne 7, 3) := by decide +kernel
theorem dX8_expectedInNumber_262 : decode cX8_expectedInNumber 262 = .ok (.iconst 1, 1) := by decide +kernel
theorem dX8_expectedInNumber_263 : decode cX8_expectedInNumber 263 = .ok (.goto 4, 3) := by decide +kernel
theorem dX8_expectedInNumber_266 : decode cX8_expectedInNumber 266 = .ok (.iconst 0, 1) := by decide +kernel
theorem dX8_expectedInNumber_267 : decode cX8_expectedInNumber 267 = .ok (.bipush 13, 2) := by decide +kernel
theorem dX8_expectedInNumber_269 : decode cX8_expectedInNumber 269 = .ok (.invokestatic 26, 3) := by decide +kernel
theorem dX8_expectedInNumber_272 : decode cX8_expectedInNumber 272 = .ok (.ireturn, 1) := by decide +kernel
theorem dX8_expectedInNumber_273 : decode cX8_expectedInNumber 273 = .ok (.iconst 0, 1) := by decide +kernel
theorem dX8_expectedInNumber_274 : decode cX8_expectedInNumber 274 = .ok (.ireturn, 1) := by decide +kernel
theorem dX8_onlyIf_0 : decode cX8_onlyIf 0 = .ok (.iload_n 0, 1) := by decide +kernel
theorem dX8_onlyIf_1 : decode cX8_onlyIf 1 = .ok (.ifCond .eq 7, 3) := by decide +kernel
theorem dX8_onlyIf_4 : decode cX8_onlyIf 4 = .ok (.iload_n 1, 1) := by decide +kernel
theorem dX8_onlyIf_5 : decode cX8_onlyIf 5 = .ok (.goto 4, 3) := by decide +kernel
theorem dX8_onlyIf_8 : decode cX8_onlyIf 8 = .ok (.iconst 0, 1) := by decide +kernel
theorem dX8_onlyIf_9 : decode cX8_onlyIf 9 = .ok (.ireturn, 1) := by decide +kernel
theorem dX8_isAccountCode_0 : decode cX8_isAccountCode 0 = .ok (.iload_n 0, 1) := by decide +kernel
theorem dX8_isAccountCode_1 : decode cX8_isAccountCode 1 = .ok (.bipush 48, 2) := by decide +kernel
theorem dX8_isAccountCode_3 : decode cX8_isAccountCode 3 = .ok (.if_icmp .lt 13, 3) := by decide +kernel
theorem dX8_isAccountCode_6 : decode cX8_isAccountCode 6 = .ok (.iload_n 0, 1) := by decide +kernel
theorem dX8_isAccountCode_7 : decode cX8_isAccountCode 7 = .ok (.bipush 54, 2) := by decide +kernel
theorem dX8_isAccountCode_9 : decode cX8_isAccountCode 9 = .ok (.if_icmp .ge 7, 3) := by decide +kernel
theorem dX8_isAccountCode_12 : decode cX8_isAccountCode 12 = .ok (.iconst 1, 1) := by decide +kernel
theorem dX8_isAccountCode_13 : decode cX8_isAccountCode 13 = .ok (.goto 4, 3) := by decide +kernel
theorem dX8_isAccountCode_16 : decode cX8_isAccountCode 16 = .ok (.iconst 0, 1) := by decide +kernel
theorem dX8_isAccountCode_17 : decode cX8_isAccountCode 17 = .ok (.ireturn, 1) := by decide +kernel
theorem dX8_digitOf_0 : decode cX8_digitOf 0 = .ok (.iload_n 0, 1) := by decide +kernel
theorem dX8_digitOf_1 : decode cX8_digitOf 1 = .ok (.bipush 48, 2) := by decide +kernel
theorem dX8_digitOf_3 : decode cX8_digitOf 3 = .ok (.if_icmp .lt 14, 3) := by decide +kernel
theorem dX8_digitOf_6 : decode cX8_digitOf 6 = .ok (.iload_n 0, 1) := by decide +kernel
theorem dX8_digitOf_7 : decode cX8_digitOf 7 = .ok (.bipush 57, 2) := by decide +kernel
theorem dX8_digitOf_9 : decode cX8_digitOf 9 = .ok (.if_icmp .gt 8, 3) := by decide +kernel
theorem dX8_digitOf_12 : decode cX8_digitOf 12 = .ok (.iload_n 0, 1) := by decide +kernel
theorem dX8_digitOf_13 : decode cX8_digitOf 13 = .ok (.bipush 48, 2) := by decide +kernel
theorem dX8_digitOf_15 : decode cX8_digitOf 15 = .ok (.isub, 1) := by decide +kernel
theorem dX8_digitOf_16 : decode cX8_digitOf 16 = .ok (.ireturn, 1) := by decide +kernel
theorem dX8_digitOf_17 : decode cX8_digitOf 17 = .ok (.iload_n 0, 1) := by decide +kernel
theorem dX8_digitOf_18 : decode cX8_digitOf 18 = .ok (.bipush 97, 2) := by decide +kernel
theorem dX8_digitOf_20 : decode cX8_digitOf 20 = .ok (.if_icmp .lt 19, 3) := by decide +kernel
theorem dX8_digitOf_23 : decode cX8_digitOf 23 = .ok (.iload_n 0, 1) := by decide +kernel
theorem dX8_digitOf_24 : decode cX8_digitOf 24 = .ok (.bipush 102, 2) := by decide +kernel
theorem dX8_digitOf_26 : decode cX8_digitOf 26 = .ok (.if_icmp .gt 13, 3) := by decide +kernel
theorem dX8_digitOf_29 : decode cX8_digitOf 29 = .ok (.iload_n 0, 1) := by decide +kernel
theorem dX8_digitOf_30 : decode cX8_digitOf 30 = .ok (.bipush 97, 2) := by decide +kernel
theorem dX8_digitOf_32 : decode cX8_digitOf 32 = .ok (.isub, 1) := by decide +kernel
theorem dX8_digitOf_33 : decode cX8_digitOf 33 = .ok (.bipush 10, 2) := by decide +kernel
theorem dX8_digitOf_35 : decode cX8_digitOf 35 = .ok (.iadd, 1) := by decide +kernel
theorem dX8_digitOf_36 : decode cX8_digitOf 36 = .ok (.goto 4, 3) := by decide +kernel
theorem dX8_digitOf_39 : decode cX8_digitOf 39 = .ok (.iconst (-1), 1) := by decide +kernel
theorem dX8_digitOf_40 : decode cX8_digitOf 40 = .ok (.ireturn, 1) := by decide +kernel
theorem dX9_count_0 : decode cX9_count 0 = .ok (.iconst 1, 1) := by decide +kernel
theorem dX9_count_1 : decode cX9_count 1 = .ok (.istore_n 2, 1) := by decide +kernel
theorem dX9_count_2 : decode cX9_count 2 = .ok (.iload_n 0, 1) := by decide +kernel
theorem dX9_count_3 : decode cX9_count 3 = .ok (.i2l, 1) := by decide +kernel
theorem dX9_count_4 : decode cX9_count 4 = .ok (.iload_n 1, 1) := by decide +kernel
theorem dX9_count_5 : decode cX9_count 5 = .ok (.i2l, 1) := by decide +kernel
theorem dX9_count_6 : decode cX9_count 6 = .ok (.invokestatic 9, 3) := by decide +kernel
theorem dX9_count_9 : decode cX9_count 9 = .ok (.lstore_n 3, 1) := by decide +kernel
theorem dX9_count_10 : decode cX9_count 10 = .ok (.lload_n 3, 1) := by decide +kernel
theorem dX9_count_11 : decode cX9_count 11 = .ok (.lconst 0, 1) := by decide +kernel
theorem dX9_count_12 : decode cX9_count 12 = .ok (.lcmp, 1) := by decide +kernel
theorem dX9_count_13 : decode cX9_count 13 = .ok (.ifCond .le 22, 3) := by decide +kernel
theorem dX9_count_16 : decode cX9_count 16 = .ok (.iload_n 2, 1) := by decide +kernel
theorem dX9_count_17 : decode cX9_count 17 = .ok (.bipush 30, 2) := by decide +kernel
theorem dX9_count_19 : decode cX9_count 19 = .ok (.if_icmp .ge 16, 3) := by decide +kernel
theorem dX9_count_22 : decode cX9_count 22 = .ok (.lload_n 3, 1) := by decide +kernel
theorem dX9_count_23 : decode cX9_count 23 = .ok (.iload_n 1, 1) := by decide +kernel
theorem dX9_count_24 : decode cX9_count 24 = .ok (.i2l, 1) := by decide +kernel
theorem dX9_count_25 : decode cX9_count 25 = .ok (.invokestatic 9, 3) := by decide +kernel
theorem dX9_count_28 : decode cX9_count 28 = .ok (.lstore_n 3, 1) := by decide +kernel
theorem dX9_count_29 : decode cX9_count 29 = .ok (.iinc 2 1, 3) := by decide +kernel
theorem dX9_count_32 : decode cX9_count 32 = .ok (.goto (-22), 3) := by decide +kernel
theorem dX9_count_35 : decode cX9_count 35 = .ok (.iload_n 2, 1) := by decide +kernel
theorem dX9_count_36 : decode cX9_count 36 = .ok (.ireturn, 1) := by decide +kernel
theorem dX9_byDividing_0 : decode cX9_byDividing 0 = .ok (.iload_n 0, 1) := by decide +kernel
theorem dX9_byDividing_1 : decode cX9_byDividing 1 = .ok (.i2l, 1) := by decide +kernel
theorem dX9_byDividing_2 : decode cX9_byDividing 2 = .ok (.lstore_n 3, 1) := by decide +kernel
theorem dX9_byDividing_3 : decode cX9_byDividing 3 = .ok (.iconst 0, 1) := by decide +kernel
theorem dX9_byDividing_4 : decode cX9_byDividing 4 = .ok (.istore 5, 2) := by decide +kernel
theorem dX9_byDividing_6 : decode cX9_byDividing 6 = .ok (.iload 5, 2) := by decide +kernel
theorem dX9_byDividing_8 : decode cX9_byDividing 8 = .ok (.iload_n 2, 1) := by decide +kernel
theorem dX9_byDividing_9 : decode cX9_byDividing 9 = .ok (.if_icmp .ge 23, 3) := by decide +kernel
theorem dX9_byDividing_12 : decode cX9_byDividing 12 = .ok (.iload 5, 2) := by decide +kernel
theorem dX9_byDividing_14 : decode cX9_byDividing 14 = .ok (.bipush 30, 2) := by decide +kernel
theorem dX9_byDividing_16 : decode cX9_byDividing 16 = .ok (.if_icmp .ge 16, 3) := by decide +kernel
theorem dX9_byDividing_19 : decode cX9_byDividing 19 = .ok (.lload_n 3, 1) := by decide +kernel
theorem dX9_byDividing_20 : decode cX9_byDividing 20 = .ok (.iload_n 1, 1) := by decide +kernel
theorem dX9_byDividing_21 : decode cX9_byDividing 21 = .ok (.i2l, 1) := by decide +kernel
theorem dX9_byDividing_22 : decode cX9_byDividing 22 = .ok (.invokestatic 9, 3) := by decide +kernel
theorem dX9_byDividing_25 : decode cX9_byDividing 25 = .ok (.lstore_n 3, 1) := by decide +kernel
theorem dX9_byDividing_26 : decode cX9_byDividing 26 = .ok (.iinc 5 1, 3) := by decide +kernel
theorem dX9_byDividing_29 : decode cX9_byDividing 29 = .ok (.goto (-23), 3) := by decide +kernel
theorem dX9_byDividing_32 : decode cX9_byDividing 32 = .ok (.lload_n 3, 1) := by decide +kernel
theorem dX9_byDividing_33 : decode cX9_byDividing 33 = .ok (.iload_n 1, 1) := by decide +kernel
theorem dX9_byDividing_34 : decode cX9_byDividing 34 = .ok (.i2l, 1) := by decide +kernel
theorem dX9_byDividing_35 : decode cX9_byDividing 35 = .ok (.invokestatic 15, 3) := by decide +kernel
theorem dX9_byDividing_38 : decode cX9_byDividing 38 = .ok (.l2i, 1) := by decide +kernel
theorem dX9_byDividing_39 : decode cX9_byDividing 39 = .ok (.ireturn, 1) := by decide +kernel
theorem dX9_byPowers_0 : decode cX9_byPowers 0 = .ok (.iload_n 0, 1) := by decide +kernel
theorem dX9_byPowers_1 : decode cX9_byPowers 1 = .ok (.iload_n 1, 1) := by decide +kernel
theorem dX9_byPowers_2 : decode cX9_byPowers 2 = .ok (.invokestatic 18, 3) := by decide +kernel
theorem dX9_byPowers_5 : decode cX9_byPowers 5 = .ok (.iconst 1, 1) := by decide +kernel
theorem dX9_byPowers_6 : decode cX9_byPowers 6 = .ok (.isub, 1) := by decide +kernel
theorem dX9_byPowers_7 : decode cX9_byPowers 7 = .ok (.istore_n 3, 1) := by decide +kernel
theorem dX9_byPowers_8 : decode cX9_byPowers 8 = .ok (.iload_n 1, 1) := by decide +kernel
theorem dX9_byPowers_9 : decode cX9_byPowers 9 = .ok (.i2l, 1) := by decide +kernel
theorem dX9_byPowers_10 : decode cX9_byPowers 10 = .ok (.iload_n 3, 1) := by decide +kernel
theorem dX9_byPowers_11 : decode cX9_byPowers 11 = .ok (.invokestatic 24, 3) := by decide +kernel
theorem dX9_byPowers_14 : decode cX9_byPowers 14 = .ok (.lstore 4, 2) := by decide +kernel
theorem dX9_byPowers_16 : decode cX9_byPowers 16 = .ok (.iload_n 0, 1) := by decide +kernel
theorem dX9_byPowers_17 : decode cX9_byPowers 17 = .ok (.i2l, 1) := by decide +kernel
theorem dX9_byPowers_18 : decode cX9_byPowers 18 = .ok (.lstore 6, 2) := by decide +kernel
theorem dX9_byPowers_20 : decode cX9_byPowers 20 = .ok (.iconst 0, 1) := by decide +kernel
theorem dX9_byPowers_21 : decode cX9_byPowers 21 = .ok (.istore 8, 2) := by decide +kernel
theorem dX9_byPowers_23 : decode cX9_byPowers 23 = .ok (.iload_n 3, 1) := by decide +kernel
theorem dX9_byPowers_24 : decode cX9_byPowers 24 = .ok (.istore 9, 2) := by decide +kernel
theorem dX9_byPowers_26 : decode cX9_byPowers 26 = .ok (.iload 9, 2) := by decide +kernel
theorem dX9_byPowers_28 : decode cX9_byPowers 28 = .ok (.iload_n 2, 1) := by decide +kernel
theorem dX9_byPowers_29 : decode cX9_byPowers 29 = .ok (.if_icmp .lt 53, 3) := by decide +kernel
theorem dX9_byPowers_32 : decode cX9_byPowers 32 = .ok (.iload 9, 2) := by decide +kernel
theorem dX9_byPowers_34 : decode cX9_byPowers 34 = .ok (.ifCond .lt 48, 3) := by decide +kernel
theorem dX9_byPowers_37 : decode cX9_byPowers 37 = .ok (.iconst 0, 1) := by decide +kernel
theorem dX9_byPowers_38 : decode cX9_byPowers 38 = .ok (.istore 8, 2) := by decide +kernel
theorem dX9_byPowers_40 : decode cX9_byPowers 40 = .ok (.iload 8, 2) := by decide +kernel
theorem dX9_byPowers_42 : decode cX9_byPowers 42 = .ok (.iload_n 1, 1) := by decide +kernel
theorem dX9_byPowers_43 : decode cX9_byPowers 43 = .ok (.if_icmp .ge 24, 3) := by decide +kernel
theorem dX9_byPowers_46 : decode cX9_byPowers 46 = .ok (.lload 6, 2) := by decide +kernel
theorem dX9_byPowers_48 : decode cX9_byPowers 48 = .ok (.lload 4, 2) := by decide +kernel
theorem dX9_byPowers_50 : decode cX9_byPowers 50 = .ok (.lcmp, 1) := by decide +kernel
theorem dX9_byPowers_51 : decode cX9_byPowers 51 = .ok (.ifCond .lt 16, 3) := by decide +kernel
theorem dX9_byPowers_54 : decode cX9_byPowers 54 = .ok (.lload 6, 2) := by decide +kernel
theorem dX9_byPowers_56 : decode cX9_byPowers 56 = .ok (.lload 4, 2) := by decide +kernel
theorem dX9_byPowers_58 : decode cX9_byPowers 58 = .ok (.lsub, 1) := by decide +kernel
theorem dX9_byPowers_59 : decode cX9_byPowers 59 = .ok (.lstore 6, 2) := by decide +kernel
theorem dX9_byPowers_61 : decode cX9_byPowers 61 = .ok (.iinc 8 1, 3) := by decide +kernel
theorem dX9_byPowers_64 : decode cX9_byPowers 64 = .ok (.goto (-24), 3) := by decide +kernel
theorem dX9_byPowers_67 : decode cX9_byPowers 67 = .ok (.lload 4, 2) := by decide +kernel
theorem dX9_byPowers_69 : decode cX9_byPowers 69 = .ok (.iload_n 1, 1) := by decide +kernel
theorem dX9_byPowers_70 : decode cX9_byPowers 70 = .ok (.i2l, 1) := by decide +kernel
theorem dX9_byPowers_71 : decode cX9_byPowers 71 = .ok (.invokestatic 9, 3) := by decide +kernel
theorem dX9_byPowers_74 : decode cX9_byPowers 74 = .ok (.lstore 4, 2) := by decide +kernel
theorem dX9_byPowers_76 : decode cX9_byPowers 76 = .ok (.iinc 9 (-1), 3) := by decide +kernel
theorem dX9_byPowers_79 : decode cX9_byPowers 79 = .ok (.goto (-53), 3) := by decide +kernel
theorem dX9_byPowers_82 : decode cX9_byPowers 82 = .ok (.iload 8, 2) := by decide +kernel
theorem dX9_byPowers_84 : decode cX9_byPowers 84 = .ok (.ireturn, 1) := by decide +kernel
theorem dX9_sum_0 : decode cX9_sum 0 = .ok (.iload_n 0, 1) := by decide +kernel
theorem dX9_sum_1 : decode cX9_sum 1 = .ok (.i2l, 1) := by decide +kernel
theorem dX9_sum_2 : decode cX9_sum 2 = .ok (.lstore_n 2, 1) := by decide +kernel
theorem dX9_sum_3 : decode cX9_sum 3 = .ok (.lconst 0, 1) := by decide +kernel
theorem dX9_sum_4 : decode cX9_sum 4 = .ok (.lstore 4, 2) := by decide +kernel
theorem dX9_sum_6 : decode cX9_sum 6 = .ok (.iconst 0, 1) := by decide +kernel
theorem dX9_sum_7 : decode cX9_sum 7 = .ok (.istore 6, 2) := by decide +kernel
theorem dX9_sum_9 : decode cX9_sum 9 = .ok (.lload_n 2, 1) := by decide +kernel
theorem dX9_sum_10 : decode cX9_sum 10 = .ok (.lconst 0, 1) := by decide +kernel
theorem dX9_sum_11 : decode cX9_sum 11 = .ok (.lcmp, 1) := by decide +kernel
theorem dX9_sum_12 : decode cX9_sum 12 = .ok (.ifCond .le 34, 3) := by decide +kernel
theorem dX9_sum_15 : decode cX9_sum 15 = .ok (.iload 6, 2) := by decide +kernel
theorem dX9_sum_17 : decode cX9_sum 17 = .ok (.bipush 30, 2) := by decide +kernel
theorem dX9_sum_19 : decode cX9_sum 19 = .ok (.if_icmp .ge 27, 3) := by decide +kernel
theorem dX9_sum_22 : decode cX9_sum 22 = .ok (.lload 4, 2) := by decide +kernel
theorem dX9_sum_24 : decode cX9_sum 24 = .ok (.lload_n 2, 1) := by decide +kernel
theorem dX9_sum_25 : decode cX9_sum 25 = .ok (.iload_n 1, 1) := by decide +kernel
theorem dX9_sum_26 : decode cX9_sum 26 = .ok (.i2l, 1) := by decide +kernel
theorem dX9_sum_27 : decode cX9_sum 27 = .ok (.invokestatic 15, 3) := by decide +kernel
theorem dX9_sum_30 : decode cX9_sum 30 = .ok (.ladd, 1) := by decide +kernel
theorem dX9_sum_31 : decode cX9_sum 31 = .ok (.lstore 4, 2) := by decide +kernel
theorem dX9_sum_33 : decode cX9_sum 33 = .ok (.lload_n 2, 1) := by decide +kernel
theorem dX9_sum_34 : decode cX9_sum 34 = .ok (.iload_n 1, 1) := by decide +kernel
theorem dX9_sum_35 : decode cX9_sum 35 = .ok (.i2l, 1) := by decide +kernel
theorem dX9_sum_36 : decode cX9_sum 36 = .ok (.invokestatic 9, 3) := by decide +kernel
theorem dX9_sum_39 : decode cX9_sum 39 = .ok (.lstore_n 2, 1) := by decide +kernel
theorem dX9_sum_40 : decode cX9_sum 40 = .ok (.iinc 6 1, 3) := by decide +kernel
theorem dX9_sum_43 : decode cX9_sum 43 = .ok (.goto (-34), 3) := by decide +kernel
theorem dX9_sum_46 : decode cX9_sum 46 = .ok (.lload 4, 2) := by decide +kernel
theorem dX9_sum_48 : decode cX9_sum 48 = .ok (.l2i, 1) := by decide +kernel
theorem dX9_sum_49 : decode cX9_sum 49 = .ok (.ireturn, 1) := by decide +kernel
theorem dX10_init_0 : decode cX10_init 0 = .ok (.aload_n 0, 1) := by decide +kernel
theorem dX10_init_1 : decode cX10_init 1 = .ok (.invokespecial 1, 3) := by decide +kernel
theorem dX10_init_4 : decode cX10_init 4 = .ok (.aload_n 0, 1) := by decide +kernel
theorem dX10_init_5 : decode cX10_init 5 = .ok (.new 7, 3) := by decide +kernel
theorem dX10_init_8 : decode cX10_init 8 = .ok (.dup, 1) := by decide +kernel
theorem dX10_init_9 : decode cX10_init 9 = .ok (.invokespecial 9, 3) := by decide +kernel
theorem dX10_init_12 : decode cX10_init 12 = .ok (.putfield 10, 3) := by decide +kernel
theorem dX10_init_15 : decode cX10_init 15 = .ok (.aload_n 0, 1) := by decide +kernel
theorem dX10_init_16 : decode cX10_init 16 = .ok (.new 7, 3) := by decide +kernel
theorem dX10_init_19 : decode cX10_init 19 = .ok (.dup, 1) := by decide +kernel
theorem dX10_init_20 : decode cX10_init 20 = .ok (.invokespecial 9, 3) := by decide +kernel
theorem dX10_init_23 : decode cX10_init 23 = .ok (.putfield 16, 3) := by decide +kernel
theorem dX10_init_26 : decode cX10_init 26 = .ok (.aload_n 0, 1) := by decide +kernel
theorem dX10_init_27 : decode cX10_init 27 = .ok (.iconst 0, 1) := by decide +kernel
theorem dX10_init_28 : decode cX10_init 28 = .ok (.putfield 19, 3) := by decide +kernel
theorem dX10_init_31 : decode cX10_init 31 = .ok (.aload_n 0, 1) := by decide +kernel
theorem dX10_init_32 : decode cX10_init 32 = .ok (.new 23, 3) := by decide +kernel
theorem dX10_init_35 : decode cX10_init 35 = .ok (.dup, 1) := by decide +kernel
theorem dX10_init_36 : decode cX10_init 36 = .ok (.invokespecial 25, 3) := by decide +kernel
theorem dX10_init_39 : decode cX10_init 39 = .ok (.putfield 26, 3) := by decide +kernel
theorem dX10_init_42 : decode cX10_init 42 = .ok (.aload_n 0, 1) := by decide +kernel
theorem dX10_init_43 : decode cX10_init 43 = .ok (.new 30, 3) := by decide +kernel
theorem dX10_init_46 : decode cX10_init 46 = .ok (.dup, 1) := by decide +kernel
theorem dX10_init_47 : decode cX10_init 47 = .ok (.invokespecial 32, 3) := by decide +kernel
theorem dX10_init_50 : decode cX10_init 50 = .ok (.putfield 33, 3) := by decide +kernel
theorem dX10_init_53 : decode cX10_init 53 = .ok (.aload_n 0, 1) := by decide +kernel
theorem dX10_init_54 : decode cX10_init 54 = .ok (.new 37, 3) := by decide +kernel
theorem dX10_init_57 : decode cX10_init 57 = .ok (.dup, 1) := by decide +kernel
theorem dX10_init_58 : decode cX10_init 58 = .ok (.invokespecial 39, 3) := by decide +kernel
theorem dX10_init_61 : decode cX10_init 61 = .ok (.putfield 40, 3) := by decide +kernel
theorem dX10_init_64 : decode cX10_init 64 = .ok (.aload_n 0, 1) := by decide +kernel
theorem dX10_init_65 : decode cX10_init 65 = .ok (.new 44, 3) := by decide +kernel
theorem dX10_init_68 : decode cX10_init 68 = .ok (.dup, 1) := by decide +kernel
theorem dX10_init_69 : decode cX10_init 69 = .ok (.invokespecial 46, 3) := by decide +kernel
theorem dX10_init_72 : decode cX10_init 72 = .ok (.putfield 47, 3) := by decide +kernel
theorem dX10_init_75 : decode cX10_init 75 = .ok (.aload_n 0, 1) := by decide +kernel
theorem dX10_init_76 : decode cX10_init 76 = .ok (.new 51, 3) := by decide +kernel
theorem dX10_init_79 : decode cX10_init 79 = .ok (.dup, 1) := by decide +kernel
theorem dX10_init_80 : decode cX10_init 80 = .ok (.invokespecial 53, 3) := by decide +kernel
theorem dX10_init_83 : decode cX10_init 83 = .ok (.putfield 54, 3) := by decide +kernel
theorem dX10_init_86 : decode cX10_init 86 = .ok (.return_, 1) := by decide +kernel
theorem dX10_setBase_0 : decode cX10_setBase 0 = .ok (.iload_n 1, 1) := by decide +kernel
theorem dX10_setBase_1 : decode cX10_setBase 1 = .ok (.invokestatic 58, 3) := by decide +kernel
theorem dX10_setBase_4 : decode cX10_setBase 4 = .ok (.aload_n 0, 1) := by decide +kernel
theorem dX10_setBase_5 : decode cX10_setBase 5 = .ok (.getfield 26, 3) := by decide +kernel
theorem dX10_setBase_8 : decode cX10_setBase 8 = .ok (.aload_n 0, 1) := by decide +kernel
theorem dX10_setBase_9 : decode cX10_setBase 9 = .ok (.getfield 10, 3) := by decide +kernel
theorem dX10_setBase_12 : decode cX10_setBase 12 = .ok (.invokevirtual 62, 3) := by decide +kernel
theorem dX10_setBase_15 : decode cX10_setBase 15 = .ok (.aload_n 0, 1) := by decide +kernel
theorem dX10_setBase_16 : decode cX10_setBase 16 = .ok (.getfield 10, 3) := by decide +kernel
theorem dX10_setBase_19 : decode cX10_setBase 19 = .ok (.getfield 66, 3) := by decide +kernel
theorem dX10_setBase_22 : decode cX10_setBase 22 = .ok (.istore_n 2, 1) := by decide +kernel
theorem dX10_setBase_23 : decode cX10_setBase 23 = .ok (.aload_n 0, 1) := by decide +kernel
theorem dX10_setBase_24 : decode cX10_setBase 24 = .ok (.getfield 10, 3) := by decide +kernel
theorem dX10_setBase_27 : decode cX10_setBase 27 = .ok (.iload_n 1, 1) := by decide +kernel
theorem dX10_setBase_28 : decode cX10_setBase 28 = .ok (.putfield 66, 3) := by decide +kernel
theorem dX10_setBase_31 : decode cX10_setBase 31 = .ok (.iload_n 2, 1) := by decide +kernel
theorem dX10_setBase_32 : decode cX10_setBase 32 = .ok (.ireturn, 1) := by decide +kernel
theorem dX10_setFraction_0 : decode cX10_setFraction 0 = .ok (.iload_n 1, 1) := by decide +kernel
theorem dX10_setFraction_1 : decode cX10_setFraction 1 = .ok (.invokestatic 70, 3) := by decide +kernel
theorem dX10_setFraction_4 : decode cX10_setFraction 4 = .ok (.iload_n 2, 1) := by decide +kernel
theorem dX10_setFraction_5 : decode cX10_setFraction 5 = .ok (.ifCond .lt 9, 3) := by decide +kernel
theorem dX10_setFraction_8 : decode cX10_setFraction 8 = .ok (.iload_n 2, 1) := by decide +kernel
theorem dX10_setFraction_9 : decode cX10_setFraction 9 = .ok (.ldc 73, 2) := by decide +kernel
theorem dX10_setFraction_11 : decode cX10_setFraction 11 = .ok (.if_icmp .le 13, 3) := by decide +kernel
theorem dX10_setFraction_14 : decode cX10_setFraction 14 = .ok (.new 74, 3) := by decide +kernel
theorem dX10_setFraction_17 : decode cX10_setFraction 17 = .ok (.dup, 1) := by decide +kernel
theorem dX10_setFraction_18 : decode cX10_setFraction 18 = .ok (.ldc 76, 2) := by decide +kernel
theorem dX10_setFraction_20 : decode cX10_setFraction 20 = .ok (.invokespecial 78, 3) := by decide +kernel
theorem dX10_setFraction_23 : decode cX10_setFraction 23 = .ok (.athrow, 1) := by decide +kernel
theorem dX10_setFraction_24 : decode cX10_setFraction 24 = .ok (.iload_n 3, 1) := by decide +kernel
theorem dX10_setFraction_25 : decode cX10_setFraction 25 = .ok (.iconst 1, 1) := by decide +kernel
theorem dX10_setFraction_26 : decode cX10_setFraction 26 = .ok (.if_icmp .lt 10, 3) := by decide +kernel
theorem dX10_setFraction_29 : decode cX10_setFraction 29 = .ok (.iload_n 3, 1) := by decide +kernel
theorem dX10_setFraction_30 : decode cX10_setFraction 30 = .ok (.sipush 999, 3) := by decide +kernel
theorem dX10_setFraction_33 : decode cX10_setFraction 33 = .ok (.if_icmp .le 13, 3) := by decide +kernel
theorem dX10_setFraction_36 : decode cX10_setFraction 36 = .ok (.new 74, 3) := by decide +kernel
theorem dX10_setFraction_39 : decode cX10_setFraction 39 = .ok (.dup, 1) := by decide +kernel
theorem dX10_setFraction_40 : decode cX10_setFraction 40 = .ok (.ldc 81, 2) := by decide +kernel
theorem dX10_setFraction_42 : decode cX10_setFraction 42 = .ok (.invokespecial 78, 3) := by decide +kernel
theorem dX10_setFraction_45 : decode cX10_setFraction 45 = .ok (.athrow, 1) := by decide +kernel
theorem dX10_setFraction_46 : decode cX10_setFraction 46 = .ok (.aload_n 0, 1) := by decide +kernel
theorem dX10_setFraction_47 : decode cX10_setFraction 47 = .ok (.getfield 40, 3) := by decide +kernel
theorem dX10_setFraction_50 : decode cX10_setFraction 50 = .ok (.iload_n 2, 1) := by decide +kernel
theorem dX10_setFraction_51 : decode cX10_setFraction 51 = .ok (.i2l, 1) := by decide +kernel
theorem dX10_setFraction_52 : decode cX10_setFraction 52 = .ok (.iload_n 3, 1) := by decide +kernel
theorem dX10_setFraction_53 : decode cX10_setFraction 53 = .ok (.i2l, 1) := by decide +kernel
theorem dX10_setFraction_54 : decode cX10_setFraction 54 = .ok (.invokevirtual 83, 3) := by decide +kernel
theorem dX10_setFraction_57 : decode cX10_setFraction 57 = .ok (.aload_n 0, 1) := by decide +kernel
theorem dX10_setFraction_58 : decode cX10_setFraction 58 = .ok (.iload_n 1, 1) := by decide +kernel
theorem dX10_setFraction_59 : decode cX10_setFraction 59 = .ok (.invokevirtual 87, 3) := by decide +kernel
theorem dX10_setFraction_62 : decode cX10_setFraction 62 = .ok (.aload_n 0, 1) := by decide +kernel
theorem dX10_setFraction_63 : decode cX10_setFraction 63 = .ok (.getfield 10, 3) := by decide +kernel
theorem dX10_setFraction_66 : decode cX10_setFraction 66 = .ok (.iload_n 1, 1) := by decide +kernel
theorem dX10_setFraction_67 : decode cX10_setFraction 67 = .ok (.invokevirtual 90, 3) := by decide +kernel
theorem dX10_setFraction_70 : decode cX10_setFraction 70 = .ok (.ireturn, 1) := by decide +kernel
theorem dX10_add_0 : decode cX10_add 0 = .ok (.iload_n 1, 1) := by decide +kernel
theorem dX10_add_1 : decode cX10_add 1 = .ok (.iload_n 2, 1) := by decide +kernel
theorem dX10_add_2 : decode cX10_add 2 = .ok (.invokestatic 94, 3) := by decide +kernel
theorem dX10_add_5 : decode cX10_add 5 = .ok (.aload_n 0, 1) := by decide +kernel
theorem dX10_add_6 : decode cX10_add 6 = .ok (.iload_n 1, 1) := by decide +kernel
theorem dX10_add_7 : decode cX10_add 7 = .ok (.iload_n 2, 1) := by decide +kernel
theorem dX10_add_8 : decode cX10_add 8 = .ok (.invokevirtual 98, 3) := by decide +kernel
theorem dX10_add_11 : decode cX10_add 11 = .ok (.aload_n 0, 1) := by decide +kernel
theorem dX10_add_12 : decode cX10_add 12 = .ok (.invokevirtual 101, 3) := by decide +kernel
theorem dX10_add_15 : decode cX10_add 15 = .ok (.aload_n 0, 1) := by decide +kernel
theorem dX10_add_16 : decode cX10_add 16 = .ok (.iload_n 1, 1) := by decide +kernel
theorem dX10_add_17 : decode cX10_add 17 = .ok (.invokevirtual 87, 3) := by decide +kernel
theorem dX10_add_20 : decode cX10_add 20 = .ok (.aload_n 0, 1) := by decide +kernel
theorem dX10_add_21 : decode cX10_add 21 = .ok (.getfield 10, 3) := by decide +kernel
theorem dX10_add_24 : decode cX10_add 24 = .ok (.iload_n 1, 1) := by decide +kernel
theorem dX10_add_25 : decode cX10_add 25 = .ok (.invokevirtual 104, 3) := by decide +kernel
theorem dX10_add_28 : decode cX10_add 28 = .ok (.ireturn, 1) := by decide +kernel
theorem dX10_subtract_0 : decode cX10_subtract 0 = .ok (.iload_n 1, 1) := by decide +kernel
theorem dX10_subtract_1 : decode cX10_subtract 1 = .ok (.iload_n 2, 1) := by decide +kernel
theorem dX10_subtract_2 : decode cX10_subtract 2 = .ok (.invokestatic 94, 3) := by decide +kernel
theorem dX10_subtract_5 : decode cX10_subtract 5 = .ok (.aload_n 0, 1) := by decide +kernel
theorem dX10_subtract_6 : decode cX10_subtract 6 = .ok (.iload_n 1, 1) := by decide +kernel
theorem dX10_subtract_7 : decode cX10_subtract 7 = .ok (.iload_n 2, 1) := by decide +kernel
theorem dX10_subtract_8 : decode cX10_subtract 8 = .ok (.invokevirtual 107, 3) := by decide +kernel
theorem dX10_subtract_11 : decode cX10_subtract 11 = .ok (.aload_n 0, 1) := by decide +kernel
theorem dX10_subtract_12 : decode cX10_subtract 12 = .ok (.invokevirtual 101, 3) := by decide +kernel
theorem dX10_subtract_15 : decode cX10_subtract 15 = .ok (.aload_n 0, 1) := by decide +kernel
theorem dX10_subtract_16 : decode cX10_subtract 16 = .ok (.iload_n 1, 1) := by decide +kernel
theorem dX10_subtract_17 : decode cX10_subtract 17 = .ok (.invokevirtual 87, 3) := by decide +kernel
theorem dX10_subtract_20 : decode cX10_subtract 20 = .ok (.aload_n 0, 1) := by decide +kernel
theorem dX10_subtract_21 : decode cX10_subtract 21 = .ok (.getfield 10, 3) := by decide +kernel
theorem dX10_subtract_24 : decode cX10_subtract 24 = .ok (.iload_n 1, 1) := by decide +kernel
theorem dX10_subtract_25 : decode cX10_subtract 25 = .ok (.invokevirtual 104, 3) := by decide +kernel
theorem dX10_subtract_28 : decode cX10_subtract 28 = .ok (.ireturn, 1) := by decide +kernel
theorem dX10_shift_0 : decode cX10_shift 0 = .ok (.iload_n 1, 1) := by decide +kernel
theorem dX10_shift_1 : decode cX10_shift 1 = .ok (.invokestatic 70, 3) := by decide +kernel
theorem dX10_shift_4 : decode cX10_shift 4 = .ok (.iload_n 2, 1) := by decide +kernel
theorem dX10_shift_5 : decode cX10_shift 5 = .ok (.bipush (-3), 2) := by decide +kernel
theorem dX10_shift_7 : decode cX10_shift 7 = .ok (.if_icmp .lt 8, 3) := by decide +kernel
theorem dX10_shift_10 : decode cX10_shift 10 = .ok (.iload_n 2, 1) := by decide +kernel
theorem dX10_shift_11 : decode cX10_shift 11 = .ok (.iconst 3, 1) := by decide +kernel
theorem dX10_shift_12 : decode cX10_shift 12 = .ok (.if_icmp .le 13, 3) := by decide +kernel
theorem dX10_shift_15 : decode cX10_shift 15 = .ok (.new 74, 3) := by decide +kernel
theorem dX10_shift_18 : decode cX10_shift 18 = .ok (.dup, 1) := by decide +kernel
theorem dX10_shift_19 : decode cX10_shift 19 = .ok (.ldc 110, 2) := by decide +kernel
theorem dX10_shift_21 : decode cX10_shift 21 = .ok (.invokespecial 78, 3) := by decide +kernel
theorem dX10_shift_24 : decode cX10_shift 24 = .ok (.athrow, 1) := by decide +kernel
theorem dX10_shift_25 : decode cX10_shift 25 = .ok (.aload_n 0, 1) := by decide +kernel
theorem dX10_shift_26 : decode cX10_shift 26 = .ok (.iload_n 1, 1) := by decide +kernel
theorem dX10_shift_27 : decode cX10_shift 27 = .ok (.iload_n 2, 1) := by decide +kernel
theorem dX10_shift_28 : decode cX10_shift 28 = .ok (.invokevirtual 112, 3) := by decide +kernel
theorem dX10_shift_31 : decode cX10_shift 31 = .ok (.aload_n 0, 1) := by decide +kernel
theorem dX10_shift_32 : decode cX10_shift 32 = .ok (.invokevirtual 101, 3) := by decide +kernel
theorem dX10_shift_35 : decode cX10_shift 35 = .ok (.aload_n 0, 1) := by decide +kernel
theorem dX10_shift_36 : decode cX10_shift 36 = .ok (.iload_n 1, 1) := by decide +kernel
theorem dX10_shift_37 : decode cX10_shift 37 = .ok (.invokevirtual 87, 3) := by decide +kernel
theorem dX10_shift_40 : decode cX10_shift 40 = .ok (.aload_n 0, 1) := by decide +kernel
theorem dX10_shift_41 : decode cX10_shift 41 = .ok (.getfield 10, 3) := by decide +kernel
theorem dX10_shift_44 : decode cX10_shift 44 = .ok (.iload_n 1, 1) := by decide +kernel
theorem dX10_shift_45 : decode cX10_shift 45 = .ok (.invokevirtual 90, 3) := by decide +kernel
theorem dX10_shift_48 : decode cX10_shift 48 = .ok (.ireturn, 1) := by decide +kernel
theorem dX10_pay_0 : decode cX10_pay 0 = .ok (.iload_n 1, 1) := by decide +kernel
theorem dX10_pay_1 : decode cX10_pay 1 = .ok (.iload_n 2, 1) := by decide +kernel
theorem dX10_pay_2 : decode cX10_pay 2 = .ok (.invokestatic 94, 3) := by decide +kernel
theorem dX10_pay_5 : decode cX10_pay 5 = .ok (.iload_n 1, 1) := by decide +kernel
theorem dX10_pay_6 : decode cX10_pay 6 = .ok (.iload_n 2, 1) := by decide +kernel
theorem dX10_pay_7 : decode cX10_pay 7 = .ok (.if_icmp .ne 13, 3) := by decide +kernel
theorem dX10_pay_10 : decode cX10_pay 10 = .ok (.new 74, 3) := by decide +kernel
theorem dX10_pay_13 : decode cX10_pay 13 = .ok (.dup, 1) := by decide +kernel
theorem dX10_pay_14 : decode cX10_pay 14 = .ok (.ldc 115, 2) := by decide +kernel
theorem dX10_pay_16 : decode cX10_pay 16 = .ok (.invokespecial 78, 3) := by decide +kernel
theorem dX10_pay_19 : decode cX10_pay 19 = .ok (.athrow, 1) := by decide +kernel
theorem dX10_pay_20 : decode cX10_pay 20 = .ok (.iload_n 3, 1) := by decide +kernel
theorem dX10_pay_21 : decode cX10_pay 21 = .ok (.iconst 1, 1) := by decide +kernel
theorem dX10_pay_22 : decode cX10_pay 22 = .ok (.if_icmp .lt 9, 3) := by decide +kernel
theorem dX10_pay_25 : decode cX10_pay 25 = .ok (.iload_n 3, 1) := by decide +kernel
theorem dX10_pay_26 : decode cX10_pay 26 = .ok (.ldc 117, 2) := by decide +kernel
theorem dX10_pay_28 : decode cX10_pay 28 = .ok (.if_icmp .le 13, 3) := by decide +kernel
theorem dX10_pay_31 : decode cX10_pay 31 = .ok (.new 74, 3) := by decide +kernel
theorem dX10_pay_34 : decode cX10_pay 34 = .ok (.dup, 1) := by decide +kernel
theorem dX10_pay_35 : decode cX10_pay 35 = .ok (.ldc 118, 2) := by decide +kernel
theorem dX10_pay_37 : decode cX10_pay 37 = .ok (.invokespecial 78, 3) := by decide +kernel
theorem dX10_pay_40 : decode cX10_pay 40 = .ok (.athrow, 1) := by decide +kernel
theorem dX10_pay_41 : decode cX10_pay 41 = .ok (.aload_n 0, 1) := by decide +kernel
theorem dX10_pay_42 : decode cX10_pay 42 = .ok (.iload_n 1, 1) := by decide +kernel
theorem dX10_pay_43 : decode cX10_pay 43 = .ok (.iload_n 3, 1) := by decide +kernel
theorem dX10_pay_44 : decode cX10_pay 44 = .ok (.ineg, 1) := by decide +kernel
theorem dX10_pay_45 : decode cX10_pay 45 = .ok (.i2l, 1) := by decide +kernel
theorem dX10_pay_46 : decode cX10_pay 46 = .ok (.invokevirtual 120, 3) := by decide +kernel
theorem dX10_pay_49 : decode cX10_pay 49 = .ok (.aload_n 0, 1) := by decide +kernel
theorem dX10_pay_50 : decode cX10_pay 50 = .ok (.invokevirtual 101, 3) := by decide +kernel
theorem dX10_pay_53 : decode cX10_pay 53 = .ok (.aload_n 0, 1) := by decide +kernel
theorem dX10_pay_54 : decode cX10_pay 54 = .ok (.iload_n 2, 1) := by decide +kernel
theorem dX10_pay_55 : decode cX10_pay 55 = .ok (.iload_n 3, 1) := by decide +kernel
theorem dX10_pay_56 : decode cX10_pay 56 = .ok (.i2l, 1) := by decide +kernel
theorem dX10_pay_57 : decode cX10_pay 57 = .ok (.invokevirtual 120, 3) := by decide +kernel
theorem dX10_pay_60 : decode cX10_pay 60 = .ok (.aload_n 0, 1) := by decide +kernel
theorem dX10_pay_61 : decode cX10_pay 61 = .ok (.invokevirtual 101, 3) := by decide +kernel
theorem dX10_pay_64 : decode cX10_pay 64 = .ok (.aload_n 0, 1) := by decide +kernel
theorem dX10_pay_65 : decode cX10_pay 65 = .ok (.iload_n 2, 1) := by decide +kernel
theorem dX10_pay_66 : decode cX10_pay 66 = .ok (.invokevirtual 87, 3) := by decide +kernel
theorem dX10_pay_69 : decode cX10_pay 69 = .ok (.aload_n 0, 1) := by decide +kernel
theorem dX10_pay_70 : decode cX10_pay 70 = .ok (.iload_n 1, 1) := by decide +kernel
theorem dX10_pay_71 : decode cX10_pay 71 = .ok (.iload_n 3, 1) := by decide +kernel
theorem dX10_pay_72 : decode cX10_pay 72 = .ok (.ineg, 1) := by decide +kernel
theorem dX10_pay_73 : decode cX10_pay 73 = .ok (.i2l, 1) := by decide +kernel
theorem dX10_pay_74 : decode cX10_pay 74 = .ok (.invokevirtual 120, 3) := by decide +kernel
theorem dX10_pay_77 : decode cX10_pay 77 = .ok (.aload_n 0, 1) := by decide +kernel
theorem dX10_pay_78 : decode cX10_pay 78 = .ok (.getfield 10, 3) := by decide +kernel
theorem dX10_pay_81 : decode cX10_pay 81 = .ok (.iload_n 1, 1) := by decide +kernel
theorem dX10_pay_82 : decode cX10_pay 82 = .ok (.aload_n 0, 1) := by decide +kernel
theorem dX10_pay_83 : decode cX10_pay 83 = .ok (.getfield 40, 3) := by decide +kernel
theorem dX10_pay_86 : decode cX10_pay 86 = .ok (.invokevirtual 124, 3) := by decide +kernel
theorem dX10_pay_89 : decode cX10_pay 89 = .ok (.aload_n 0, 1) := by decide +kernel
theorem dX10_pay_90 : decode cX10_pay 90 = .ok (.getfield 10, 3) := by decide +kernel
theorem dX10_pay_93 : decode cX10_pay 93 = .ok (.iload_n 1, 1) := by decide +kernel
theorem dX10_pay_94 : decode cX10_pay 94 = .ok (.invokevirtual 104, 3) := by decide +kernel
theorem dX10_pay_97 : decode cX10_pay 97 = .ok (.ireturn, 1) := by decide +kernel
theorem dX10_append_0 : decode cX10_append 0 = .ok (.iload_n 1, 1) := by decide +kernel
theorem dX10_append_1 : decode cX10_append 1 = .ok (.bipush 33, 2) := by decide +kernel
theorem dX10_append_3 : decode cX10_append 3 = .ok (.if_icmp .lt 9, 3) := by decide +kernel
theorem dX10_append_6 : decode cX10_append 6 = .ok (.iload_n 1, 1) := by decide +kernel
theorem dX10_append_7 : decode cX10_append 7 = .ok (.bipush 126, 2) := by decide +kernel
theorem dX10_append_9 : decode cX10_append 9 = .ok (.if_icmp .le 13, 3) := by decide +kernel
theorem dX10_append_12 : decode cX10_append 12 = .ok (.new 74, 3) := by decide +kernel
theorem dX10_append_15 : decode cX10_append 15 = .ok (.dup, 1) := by decide +kernel
theorem dX10_append_16 : decode cX10_append 16 = .ok (.ldc 128, 2) := by decide +kernel
theorem dX10_append_18 : decode cX10_append 18 = .ok (.invokespecial 78, 3) := by decide +kernel
theorem dX10_append_21 : decode cX10_append 21 = .ok (.athrow, 1) := by decide +kernel
theorem dX10_append_22 : decode cX10_append 22 = .ok (.aload_n 0, 1) := by decide +kernel
theorem dX10_append_23 : decode cX10_append 23 = .ok (.getfield 33, 3) := by decide +kernel
theorem dX10_append_26 : decode cX10_append 26 = .ok (.getfield 130, 3) := by decide +kernel
theorem dX10_append_29 : decode cX10_append 29 = .ok (.bipush 60, 2) := by decide +kernel
theorem dX10_append_31 : decode cX10_append 31 = .ok (.if_icmp .lt 13, 3) := by decide +kernel
theorem dX10_append_34 : decode cX10_append 34 = .ok (.new 133, 3) := by decide +kernel
theorem dX10_append_37 : decode cX10_append 37 = .ok (.dup, 1) := by decide +kernel
theorem dX10_append_38 : decode cX10_append 38 = .ok (.ldc 135, 2) := by decide +kernel
theorem dX10_append_40 : decode cX10_append 40 = .ok (.invokespecial 137, 3) := by decide +kernel
theorem dX10_append_43 : decode cX10_append 43 = .ok (.athrow, 1) := by decide +kernel
theorem dX10_append_44 : decode cX10_append 44 = .ok (.aload_n 0, 1) := by decide +kernel
theorem dX10_append_45 : decode cX10_append 45 = .ok (.getfield 33, 3) := by decide +kernel
theorem dX10_append_48 : decode cX10_append 48 = .ok (.iload_n 1, 1) := by decide +kernel
theorem dX10_append_49 : decode cX10_append 49 = .ok (.invokevirtual 138, 3) := by decide +kernel
theorem dX10_append_52 : decode cX10_append 52 = .ok (.aload_n 0, 1) := by decide +kernel
theorem dX10_append_53 : decode cX10_append 53 = .ok (.getfield 33, 3) := by decide +kernel
theorem dX10_append_56 : decode cX10_append 56 = .ok (.getfield 130, 3) := by decide +kernel
theorem dX10_append_59 : decode cX10_append 59 = .ok (.ireturn, 1) := by decide +kernel
theorem dX10_clearBuffer_0 : decode cX10_clearBuffer 0 = .ok (.aload_n 0, 1) := by decide +kernel
theorem dX10_clearBuffer_1 : decode cX10_clearBuffer 1 = .ok (.getfield 33, 3) := by decide +kernel
theorem dX10_clearBuffer_4 : decode cX10_clearBuffer 4 = .ok (.getfield 130, 3) := by decide +kernel
theorem dX10_clearBuffer_7 : decode cX10_clearBuffer 7 = .ok (.istore_n 1, 1) := by decide +kernel
theorem dX10_clearBuffer_8 : decode cX10_clearBuffer 8 = .ok (.aload_n 0, 1) := by decide +kernel
theorem dX10_clearBuffer_9 : decode cX10_clearBuffer 9 = .ok (.getfield 33, 3) := by decide +kernel
theorem dX10_clearBuffer_12 : decode cX10_clearBuffer 12 = .ok (.iconst 0, 1) := by decide +kernel
theorem dX10_clearBuffer_13 : decode cX10_clearBuffer 13 = .ok (.putfield 130, 3) := by decide +kernel
theorem dX10_clearBuffer_16 : decode cX10_clearBuffer 16 = .ok (.iload_n 1, 1) := by decide +kernel
theorem dX10_clearBuffer_17 : decode cX10_clearBuffer 17 = .ok (.ireturn, 1) := by decide +kernel
theorem dX10_firstError_0 : decode cX10_firstError 0 = .ok (.aload_n 0, 1) := by decide +kernel
theorem dX10_firstError_1 : decode cX10_firstError 1 = .ok (.getfield 33, 3) := by decide +kernel
theorem dX10_firstError_4 : decode cX10_firstError 4 = .ok (.invokevirtual 140, 3) := by decide +kernel
theorem dX10_firstError_7 : decode cX10_firstError 7 = .ok (.ireturn, 1) := by decide +kernel
theorem dX10_enter_0 : decode cX10_enter 0 = .ok (.aload_n 0, 1) := by decide +kernel
theorem dX10_enter_1 : decode cX10_enter 1 = .ok (.getfield 33, 3) := by decide +kernel
theorem dX10_enter_4 : decode cX10_enter 4 = .ok (.invokevirtual 144, 3) := by decide +kernel
theorem dX10_enter_7 : decode cX10_enter 7 = .ok (.ifCond .ne 13, 3) := by decide +kernel
theorem dX10_enter_10 : decode cX10_enter 10 = .ok (.new 74, 3) := by decide +kernel
theorem dX10_enter_13 : decode cX10_enter 13 = .ok (.dup, 1) := by decide +kernel
theorem dX10_enter_14 : decode cX10_enter 14 = .ok (.ldc 148, 2) := by decide +kernel
theorem dX10_enter_16 : decode cX10_enter 16 = .ok (.invokespecial 78, 3) := by decide +kernel
theorem dX10_enter_19 : decode cX10_enter 19 = .ok (.athrow, 1) := by decide +kernel
theorem dX10_enter_20 : decode cX10_enter 20 = .ok (.aload_n 0, 1) := by decide +kernel
theorem dX10_enter_21 : decode cX10_enter 21 = .ok (.getfield 26, 3) := by decide +kernel
theorem dX10_enter_24 : decode cX10_enter 24 = .ok (.aload_n 0, 1) := by decide +kernel
theorem dX10_enter_25 : decode cX10_enter 25 = .ok (.getfield 10, 3) := by decide +kernel
theorem dX10_enter_28 : decode cX10_enter 28 = .ok (.invokevirtual 62, 3) := by decide +kernel
theorem dX10_enter_31 : decode cX10_enter 31 = .ok (.aload_n 0, 1) := by decide +kernel
theorem dX10_enter_32 : decode cX10_enter 32 = .ok (.getfield 10, 3) := by decide +kernel
theorem dX10_enter_35 : decode cX10_enter 35 = .ok (.iconst 0, 1) := by decide +kernel
theorem dX10_enter_36 : decode cX10_enter 36 = .ok (.iconst 0, 1) := by decide +kernel
theorem dX10_enter_37 : decode cX10_enter 37 = .ok (.invokevirtual 150, 3) := by decide +kernel
theorem dX10_enter_40 : decode cX10_enter 40 = .ok (.aload_n 0, 1) := by decide +kernel
theorem dX10_enter_41 : decode cX10_enter 41 = .ok (.invokevirtual 153, 3) := by decide +kernel
theorem dX10_enter_44 : decode cX10_enter 44 = .ok (.istore_n 1, 1) := by decide +kernel
theorem dX10_enter_45 : decode cX10_enter 45 = .ok (.aload_n 0, 1) := by decide +kernel
theorem dX10_enter_46 : decode cX10_enter 46 = .ok (.getfield 33, 3) := by decide +kernel
theorem dX10_enter_49 : decode cX10_enter 49 = .ok (.iconst 0, 1) := by decide +kernel
theorem dX10_enter_50 : decode cX10_enter 50 = .ok (.putfield 130, 3) := by decide +kernel
theorem dX10_enter_53 : decode cX10_enter 53 = .ok (.iload_n 1, 1) := by decide +kernel
theorem dX10_enter_54 : decode cX10_enter 54 = .ok (.ireturn, 1) := by decide +kernel
theorem dX10_hasStopped_0 : decode cX10_hasStopped 0 = .ok (.aload_n 0, 1) := by decide +kernel
theorem dX10_hasStopped_1 : decode cX10_hasStopped 1 = .ok (.getfield 10, 3) := by decide +kernel
theorem dX10_hasStopped_4 : decode cX10_hasStopped 4 = .ok (.getfield 156, 3) := by decide +kernel
theorem dX10_hasStopped_7 : decode cX10_hasStopped 7 = .ok (.ifCond .eq 7, 3) := by decide +kernel
theorem dX10_hasStopped_10 : decode cX10_hasStopped 10 = .ok (.iconst 1, 1) := by decide +kernel
theorem dX10_hasStopped_11 : decode cX10_hasStopped 11 = .ok (.goto 4, 3) := by decide +kernel
theorem dX10_hasStopped_14 : decode cX10_hasStopped 14 = .ok (.iconst 0, 1) := by decide +kernel
theorem dX10_hasStopped_15 : decode cX10_hasStopped 15 = .ok (.ireturn, 1) := by decide +kernel
theorem dX10_stoppedPart_0 : decode cX10_stoppedPart 0 = .ok (.aload_n 0, 1) := by decide +kernel
theorem dX10_stoppedPart_1 : decode cX10_stoppedPart 1 = .ok (.invokevirtual 159, 3) := by decide +kernel
theorem dX10_stoppedPart_4 : decode cX10_stoppedPart 4 = .ok (.aload_n 0, 1) := by decide +kernel
theorem dX10_stoppedPart_5 : decode cX10_stoppedPart 5 = .ok (.getfield 10, 3) := by decide +kernel
theorem dX10_stoppedPart_8 : decode cX10_stoppedPart 8 = .ok (.getfield 162, 3) := by decide +kernel
theorem dX10_stoppedPart_11 : decode cX10_stoppedPart 11 = .ok (.ireturn, 1) := by decide +kernel
theorem dX10_whyStopped_0 : decode cX10_whyStopped 0 = .ok (.aload_n 0, 1) := by decide +kernel
theorem dX10_whyStopped_1 : decode cX10_whyStopped 1 = .ok (.invokevirtual 159, 3) := by decide +kernel
theorem dX10_whyStopped_4 : decode cX10_whyStopped 4 = .ok (.aload_n 0, 1) := by decide +kernel
theorem dX10_whyStopped_5 : decode cX10_whyStopped 5 = .ok (.getfield 10, 3) := by decide +kernel
theorem dX10_whyStopped_8 : decode cX10_whyStopped 8 = .ok (.getfield 156, 3) := by decide +kernel
theorem dX10_whyStopped_11 : decode cX10_whyStopped 11 = .ok (.ireturn, 1) := by decide +kernel
theorem dX10_undo_0 : decode cX10_undo 0 = .ok (.aload_n 0, 1) := by decide +kernel
theorem dX10_undo_1 : decode cX10_undo 1 = .ok (.getfield 26, 3) := by decide +kernel
theorem dX10_undo_4 : decode cX10_undo 4 = .ok (.getfield 165, 3) := by decide +kernel
theorem dX10_undo_7 : decode cX10_undo 7 = .ok (.ifCond .ne 13, 3) := by decide +kernel
theorem dX10_undo_10 : decode cX10_undo 10 = .ok (.new 133, 3) := by decide +kernel
theorem dX10_undo_13 : decode cX10_undo 13 = .ok (.dup, 1) := by decide +kernel
theorem dX10_undo_14 : decode cX10_undo 14 = .ok (.ldc 168, 2) := by decide +kernel
theorem dX10_undo_16 : decode cX10_undo 16 = .ok (.invokespecial 137, 3) := by decide +kernel
theorem dX10_undo_19 : decode cX10_undo 19 = .ok (.athrow, 1) := by decide +kernel
theorem dX10_undo_20 : decode cX10_undo 20 = .ok (.aload_n 0, 1) := by decide +kernel
theorem dX10_undo_21 : decode cX10_undo 21 = .ok (.getfield 26, 3) := by decide +kernel
theorem dX10_undo_24 : decode cX10_undo 24 = .ok (.aload_n 0, 1) := by decide +kernel
theorem dX10_undo_25 : decode cX10_undo 25 = .ok (.getfield 10, 3) := by decide +kernel
theorem dX10_undo_28 : decode cX10_undo 28 = .ok (.invokevirtual 170, 3) := by decide +kernel
theorem dX10_undo_31 : decode cX10_undo 31 = .ok (.aload_n 0, 1) := by decide +kernel
theorem dX10_undo_32 : decode cX10_undo 32 = .ok (.getfield 26, 3) := by decide +kernel
theorem dX10_undo_35 : decode cX10_undo 35 = .ok (.getfield 165, 3) := by decide +kernel
theorem dX10_undo_38 : decode cX10_undo 38 = .ok (.ireturn, 1) := by decide +kernel
theorem dX10_keep_0 : decode cX10_keep 0 = .ok (.aload_n 0, 1) := by decide +kernel
theorem dX10_keep_1 : decode cX10_keep 1 = .ok (.getfield 16, 3) := by decide +kernel
theorem dX10_keep_4 : decode cX10_keep 4 = .ok (.aload_n 0, 1) := by decide +kernel
theorem dX10_keep_5 : decode cX10_keep 5 = .ok (.getfield 10, 3) := by decide +kernel
theorem dX10_keep_8 : decode cX10_keep 8 = .ok (.invokevirtual 173, 3) := by decide +kernel
theorem dX10_keep_11 : decode cX10_keep 11 = .ok (.aload_n 0, 1) := by decide +kernel
theorem dX10_keep_12 : decode cX10_keep 12 = .ok (.iconst 1, 1) := by decide +kernel
theorem dX10_keep_13 : decode cX10_keep 13 = .ok (.putfield 19, 3) := by decide +kernel
theorem dX10_keep_16 : decode cX10_keep 16 = .ok (.aload_n 0, 1) := by decide +kernel
theorem dX10_keep_17 : decode cX10_keep 17 = .ok (.getfield 10, 3) := by decide +kernel
theorem dX10_keep_20 : decode cX10_keep 20 = .ok (.getfield 66, 3) := by decide +kernel
theorem dX10_keep_23 : decode cX10_keep 23 = .ok (.ireturn, 1) := by decide +kernel
theorem dX10_restore_0 : decode cX10_restore 0 = .ok (.aload_n 0, 1) := by decide +kernel
theorem dX10_restore_1 : decode cX10_restore 1 = .ok (.getfield 19, 3) := by decide +kernel
theorem dX10_restore_4 : decode cX10_restore 4 = .ok (.ifCond .ne 13, 3) := by decide +kernel
theorem dX10_restore_7 : decode cX10_restore 7 = .ok (.new 133, 3) := by decide +kernel
theorem dX10_restore_10 : decode cX10_restore 10 = .ok (.dup, 1) := by decide +kernel
theorem dX10_restore_11 : decode cX10_restore 11 = .ok (.ldc 176, 2) := by decide +kernel
theorem dX10_restore_13 : decode cX10_restore 13 = .ok (.invokespecial 137, 3) := by decide +kernel
theorem dX10_restore_16 : decode cX10_restore 16 = .ok (.athrow, 1) := by decide +kernel
theorem dX10_restore_17 : decode cX10_restore 17 = .ok (.aload_n 0, 1) := by decide +kernel
theorem dX10_restore_18 : decode cX10_restore 18 = .ok (.getfield 26, 3) := by decide +kernel
theorem dX10_restore_21 : decode cX10_restore 21 = .ok (.aload_n 0, 1) := by decide +kernel
theorem dX10_restore_22 : decode cX10_restore 22 = .ok (.getfield 10, 3) := by decide +kernel
theorem dX10_restore_25 : decode cX10_restore 25 = .ok (.invokevirtual 62, 3) := by decide +kernel
theorem dX10_restore_28 : decode cX10_restore 28 = .ok (.aload_n 0, 1) := by decide +kernel
theorem dX10_restore_29 : decode cX10_restore 29 = .ok (.getfield 10, 3) := by decide +kernel
theorem dX10_restore_32 : decode cX10_restore 32 = .ok (.aload_n 0, 1) := by decide +kernel
theorem dX10_restore_33 : decode cX10_restore 33 = .ok (.getfield 16, 3) := by decide +kernel
theorem dX10_restore_36 : decode cX10_restore 36 = .ok (.invokevirtual 173, 3) := by decide +kernel
theorem dX10_restore_39 : decode cX10_restore 39 = .ok (.aload_n 0, 1) := by decide +kernel
theorem dX10_restore_40 : decode cX10_restore 40 = .ok (.getfield 10, 3) := by decide +kernel
theorem dX10_restore_43 : decode cX10_restore 43 = .ok (.getfield 66, 3) := by decide +kernel
theorem dX10_restore_46 : decode cX10_restore 46 = .ok (.ireturn, 1) := by decide +kernel
theorem dX10_savedStates_0 : decode cX10_savedStates 0 = .ok (.aload_n 0, 1) := by decide +kernel
theorem dX10_savedStates_1 : decode cX10_savedStates 1 = .ok (.getfield 26, 3) := by decide +kernel
theorem dX10_savedStates_4 : decode cX10_savedStates 4 = .ok (.getfield 165, 3) := by decide +kernel
theorem dX10_savedStates_7 : decode cX10_savedStates 7 = .ok (.ireturn, 1) := by decide +kernel
theorem dX10_base_0 : decode cX10_base 0 = .ok (.aload_n 0, 1) := by decide +kernel
theorem dX10_base_1 : decode cX10_base 1 = .ok (.getfield 10, 3) := by decide +kernel
theorem dX10_base_4 : decode cX10_base 4 = .ok (.getfield 66, 3) := by decide +kernel
theorem dX10_base_7 : decode cX10_base 7 = .ok (.ireturn, 1) := by decide +kernel
theorem dX10_numerator_0 : decode cX10_numerator 0 = .ok (.iload_n 1, 1) := by decide +kernel
theorem dX10_numerator_1 : decode cX10_numerator 1 = .ok (.invokestatic 70, 3) := by decide +kernel
theorem dX10_numerator_4 : decode cX10_numerator 4 = .ok (.aload_n 0, 1) := by decide +kernel
theorem dX10_numerator_5 : decode cX10_numerator 5 = .ok (.getfield 10, 3) := by decide +kernel
theorem dX10_numerator_8 : decode cX10_numerator 8 = .ok (.iload_n 1, 1) := by decide +kernel
theorem dX10_numerator_9 : decode cX10_numerator 9 = .ok (.invokevirtual 104, 3) := by decide +kernel
theorem dX10_numerator_12 : decode cX10_numerator 12 = .ok (.ireturn, 1) := by decide +kernel
theorem dX10_denominator_0 : decode cX10_denominator 0 = .ok (.iload_n 1, 1) := by decide +kernel
theorem dX10_denominator_1 : decode cX10_denominator 1 = .ok (.invokestatic 70, 3) := by decide +kernel
theorem dX10_denominator_4 : decode cX10_denominator 4 = .ok (.aload_n 0, 1) := by decide +kernel
theorem dX10_denominator_5 : decode cX10_denominator 5 = .ok (.getfield 10, 3) := by decide +kernel
theorem dX10_denominator_8 : decode cX10_denominator 8 = .ok (.iload_n 1, 1) := by decide +kernel
theorem dX10_denominator_9 : decode cX10_denominator 9 = .ok (.invokevirtual 90, 3) := by decide +kernel
theorem dX10_denominator_12 : decode cX10_denominator 12 = .ok (.ireturn, 1) := by decide +kernel
theorem dX10_whole_0 : decode cX10_whole 0 = .ok (.iload_n 1, 1) := by decide +kernel
theorem dX10_whole_1 : decode cX10_whole 1 = .ok (.invokestatic 70, 3) := by decide +kernel
theorem dX10_whole_4 : decode cX10_whole 4 = .ok (.aload_n 0, 1) := by decide +kernel
theorem dX10_whole_5 : decode cX10_whole 5 = .ok (.getfield 10, 3) := by decide +kernel
theorem dX10_whole_8 : decode cX10_whole 8 = .ok (.iload_n 1, 1) := by decide +kernel
theorem dX10_whole_9 : decode cX10_whole 9 = .ok (.invokevirtual 178, 3) := by decide +kernel
theorem dX10_whole_12 : decode cX10_whole 12 = .ok (.ireturn, 1) := by decide +kernel
theorem dX10_compare_0 : decode cX10_compare 0 = .ok (.iload_n 1, 1) := by decide +kernel
theorem dX10_compare_1 : decode cX10_compare 1 = .ok (.iload_n 2, 1) := by decide +kernel
theorem dX10_compare_2 : decode cX10_compare 2 = .ok (.invokestatic 94, 3) := by decide +kernel
theorem dX10_compare_5 : decode cX10_compare 5 = .ok (.aload_n 0, 1) := by decide +kernel
theorem dX10_compare_6 : decode cX10_compare 6 = .ok (.iload_n 1, 1) := by decide +kernel
theorem dX10_compare_7 : decode cX10_compare 7 = .ok (.iload_n 2, 1) := by decide +kernel
theorem dX10_compare_8 : decode cX10_compare 8 = .ok (.invokevirtual 181, 3) := by decide +kernel
theorem dX10_compare_11 : decode cX10_compare 11 = .ok (.ireturn, 1) := by decide +kernel
theorem dX10_richest_0 : decode cX10_richest 0 = .ok (.iconst 0, 1) := by decide +kernel
theorem dX10_richest_1 : decode cX10_richest 1 = .ok (.istore_n 1, 1) := by decide +kernel
theorem dX10_richest_2 : decode cX10_richest 2 = .ok (.iconst 1, 1) := by decide +kernel
theorem dX10_richest_3 : decode cX10_richest 3 = .ok (.istore_n 2, 1) := by decide +kernel
theorem dX10_richest_4 : decode cX10_richest 4 = .ok (.iload_n 2, 1) := by decide +kernel
theorem dX10_richest_5 : decode cX10_richest 5 = .ok (.bipush 6, 2) := by decide +kernel
theorem dX10_richest_7 : decode cX10_richest 7 = .ok (.if_icmp .ge 20, 3) := by decide +kernel
theorem dX10_richest_10 : decode cX10_richest 10 = .ok (.aload_n 0, 1) := by decide +kernel
theorem dX10_richest_11 : decode cX10_richest 11 = .ok (.iload_n 2, 1) := by decide +kernel
theorem dX10_richest_12 : decode cX10_richest 12 = .ok (.iload_n 1, 1) := by decide +kernel
theorem dX10_richest_13 : decode cX10_richest 13 = .ok (.invokevirtual 181, 3) := by decide +kernel
theorem dX10_richest_16 : decode cX10_richest 16 = .ok (.ifCond .le 5, 3) := by decide +kernel
theorem dX10_richest_19 : decode cX10_richest 19 = .ok (.iload_n 2, 1) := by decide +kernel
theorem dX10_richest_20 : decode cX10_richest 20 = .ok (.istore_n 1, 1) := by decide +kernel
theorem dX10_richest_21 : decode cX10_richest 21 = .ok (.iinc 2 1, 3) := by decide +kernel
theorem dX10_richest_24 : decode cX10_richest 24 = .ok (.goto (-20), 3) := by decide +kernel
theorem dX10_richest_27 : decode cX10_richest 27 = .ok (.iload_n 1, 1) := by decide +kernel
theorem dX10_richest_28 : decode cX10_richest 28 = .ok (.ireturn, 1) := by decide +kernel
theorem dX10_wholeDigits_0 : decode cX10_wholeDigits 0 = .ok (.iload_n 1, 1) := by decide +kernel
theorem dX10_wholeDigits_1 : decode cX10_wholeDigits 1 = .ok (.invokestatic 70, 3) := by decide +kernel
theorem dX10_wholeDigits_4 : decode cX10_wholeDigits 4 = .ok (.aload_n 0, 1) := by decide +kernel
theorem dX10_wholeDigits_5 : decode cX10_wholeDigits 5 = .ok (.getfield 10, 3) := by decide +kernel
theorem dX10_wholeDigits_8 : decode cX10_wholeDigits 8 = .ok (.iload_n 1, 1) := by decide +kernel
theorem dX10_wholeDigits_9 : decode cX10_wholeDigits 9 = .ok (.invokevirtual 178, 3) := by decide +kernel
theorem dX10_wholeDigits_12 : decode cX10_wholeDigits 12 = .ok (.aload_n 0, 1) := by decide +kernel
theorem dX10_wholeDigits_13 : decode cX10_wholeDigits 13 = .ok (.getfield 10, 3) := by decide +kernel
theorem dX10_wholeDigits_16 : decode cX10_wholeDigits 16 = .ok (.getfield 66, 3) := by decide +kernel
theorem dX10_wholeDigits_19 : decode cX10_wholeDigits 19 = .ok (.invokestatic 185, 3) := by decide +kernel
theorem dX10_wholeDigits_22 : decode cX10_wholeDigits 22 = .ok (.ireturn, 1) := by decide +kernel
theorem dX10_wholeDigit_0 : decode cX10_wholeDigit 0 = .ok (.aload_n 0, 1) := by decide +kernel
theorem dX10_wholeDigit_1 : decode cX10_wholeDigit 1 = .ok (.iload_n 1, 1) := by decide +kernel
theorem dX10_wholeDigit_2 : decode cX10_wholeDigit 2 = .ok (.iload_n 2, 1) := by decide +kernel
theorem dX10_wholeDigit_3 : decode cX10_wholeDigit 3 = .ok (.invokevirtual 189, 3) := by decide +kernel
theorem dX10_wholeDigit_6 : decode cX10_wholeDigit 6 = .ok (.aload_n 0, 1) := by decide +kernel
theorem dX10_wholeDigit_7 : decode cX10_wholeDigit 7 = .ok (.getfield 10, 3) := by decide +kernel
theorem dX10_wholeDigit_10 : decode cX10_wholeDigit 10 = .ok (.iload_n 1, 1) := by decide +kernel
theorem dX10_wholeDigit_11 : decode cX10_wholeDigit 11 = .ok (.invokevirtual 178, 3) := by decide +kernel
theorem dX10_wholeDigit_14 : decode cX10_wholeDigit 14 = .ok (.aload_n 0, 1) := by decide +kernel
theorem dX10_wholeDigit_15 : decode cX10_wholeDigit 15 = .ok (.getfield 10, 3) := by decide +kernel
theorem dX10_wholeDigit_18 : decode cX10_wholeDigit 18 = .ok (.getfield 66, 3) := by decide +kernel
theorem dX10_wholeDigit_21 : decode cX10_wholeDigit 21 = .ok (.iload_n 2, 1) := by decide +kernel
theorem dX10_wholeDigit_22 : decode cX10_wholeDigit 22 = .ok (.invokestatic 192, 3) := by decide +kernel
theorem dX10_wholeDigit_25 : decode cX10_wholeDigit 25 = .ok (.ireturn, 1) := by decide +kernel
theorem dX10_wholeDigitByPowers_0 : decode cX10_wholeDigitByPowers 0 = .ok (.aload_n 0, 1) := by decide +kernel
theorem dX10_wholeDigitByPowers_1 : decode cX10_wholeDigitByPowers 1 = .ok (.iload_n 1, 1) := by decide +kernel
theorem dX10_wholeDigitByPowers_2 : decode cX10_wholeDigitByPowers 2 = .ok (.iload_n 2, 1) := by decide +kernel
theorem dX10_wholeDigitByPowers_3 : decode cX10_wholeDigitByPowers 3 = .ok (.invokevirtual 189, 3) := by decide +kernel
theorem dX10_wholeDigitByPowers_6 : decode cX10_wholeDigitByPowers 6 = .ok (.aload_n 0, 1) := by decide +kernel
theorem dX10_wholeDigitByPowers_7 : decode cX10_wholeDigitByPowers 7 = .ok (.getfield 10, 3) := by decide +kernel
theorem dX10_wholeDigitByPowers_10 : decode cX10_wholeDigitByPowers 10 = .ok (.iload_n 1, 1) := by decide +kernel
theorem dX10_wholeDigitByPowers_11 : decode cX10_wholeDigitByPowers 11 = .ok (.invokevirtual 178, 3) := by decide +kernel
theorem dX10_wholeDigitByPowers_14 : decode cX10_wholeDigitByPowers 14 = .ok (.aload_n 0, 1) := by decide +kernel
theorem dX10_wholeDigitByPowers_15 : decode cX10_wholeDigitByPowers 15 = .ok (.getfield 10, 3) := by decide +kernel
theorem dX10_wholeDigitByPowers_18 : decode cX10_wholeDigitByPowers 18 = .ok (.getfield 66, 3) := by decide +kernel
theorem dX10_wholeDigitByPowers_21 : decode cX10_wholeDigitByPowers 21 = .ok (.iload_n 2, 1) := by decide +kernel
theorem dX10_wholeDigitByPowers_22 : decode cX10_wholeDigitByPowers 22 = .ok (.invokestatic 196, 3) := by decide +kernel
theorem dX10_wholeDigitByPowers_25 : decode cX10_wholeDigitByPowers 25 = .ok (.ireturn, 1) := by decide +kernel
theorem dX10_digitSum_0 : decode cX10_digitSum 0 = .ok (.iload_n 1, 1) := by decide +kernel
theorem dX10_digitSum_1 : decode cX10_digitSum 1 = .ok (.invokestatic 70, 3) := by decide +kernel
theorem dX10_digitSum_4 : decode cX10_digitSum 4 = .ok (.aload_n 0, 1) := by decide +kernel
theorem dX10_digitSum_5 : decode cX10_digitSum 5 = .ok (.getfield 10, 3) := by decide +kernel
theorem dX10_digitSum_8 : decode cX10_digitSum 8 = .ok (.iload_n 1, 1) := by decide +kernel
theorem dX10_digitSum_9 : decode cX10_digitSum 9 = .ok (.invokevirtual 178, 3) := by decide +kernel
theorem dX10_digitSum_12 : decode cX10_digitSum 12 = .ok (.aload_n 0, 1) := by decide +kernel
theorem dX10_digitSum_13 : decode cX10_digitSum 13 = .ok (.getfield 10, 3) := by decide +kernel
theorem dX10_digitSum_16 : decode cX10_digitSum 16 = .ok (.getfield 66, 3) := by decide +kernel
theorem dX10_digitSum_19 : decode cX10_digitSum 19 = .ok (.invokestatic 199, 3) := by decide +kernel
theorem dX10_digitSum_22 : decode cX10_digitSum 22 = .ok (.ireturn, 1) := by decide +kernel
theorem dX10_leftByDigits_0 : decode cX10_leftByDigits 0 = .ok (.iload_n 1, 1) := by decide +kernel
theorem dX10_leftByDigits_1 : decode cX10_leftByDigits 1 = .ok (.invokestatic 70, 3) := by decide +kernel
theorem dX10_leftByDigits_4 : decode cX10_leftByDigits 4 = .ok (.aload_n 0, 1) := by decide +kernel
theorem dX10_leftByDigits_5 : decode cX10_leftByDigits 5 = .ok (.getfield 10, 3) := by decide +kernel
theorem dX10_leftByDigits_8 : decode cX10_leftByDigits 8 = .ok (.iload_n 1, 1) := by decide +kernel
theorem dX10_leftByDigits_9 : decode cX10_leftByDigits 9 = .ok (.invokevirtual 178, 3) := by decide +kernel
theorem dX10_leftByDigits_12 : decode cX10_leftByDigits 12 = .ok (.aload_n 0, 1) := by decide +kernel
theorem dX10_leftByDigits_13 : decode cX10_leftByDigits 13 = .ok (.getfield 10, 3) := by decide +kernel
theorem dX10_leftByDigits_16 : decode cX10_leftByDigits 16 = .ok (.getfield 66, 3) := by decide +kernel
theorem dX10_leftByDigits_19 : decode cX10_leftByDigits 19 = .ok (.invokestatic 199, 3) := by decide +kernel
theorem dX10_leftByDigits_22 : decode cX10_leftByDigits 22 = .ok (.i2l, 1) := by decide +kernel
theorem dX10_leftByDigits_23 : decode cX10_leftByDigits 23 = .ok (.aload_n 0, 1) := by decide +kernel
theorem dX10_leftByDigits_24 : decode cX10_leftByDigits 24 = .ok (.getfield 10, 3) := by decide +kernel
theorem dX10_leftByDigits_27 : decode cX10_leftByDigits 27 = .ok (.getfield 66, 3) := by decide +kernel
theorem dX10_leftByDigits_30 : decode cX10_leftByDigits 30 = .ok (.iconst 1, 1) := by decide +kernel
theorem dX10_leftByDigits_31 : decode cX10_leftByDigits 31 = .ok (.isub, 1) := by decide +kernel
theorem dX10_leftByDigits_32 : decode cX10_leftByDigits 32 = .ok (.i2l, 1) := by decide +kernel
theorem dX10_leftByDigits_33 : decode cX10_leftByDigits 33 = .ok (.invokestatic 202, 3) := by decide +kernel
theorem dX10_leftByDigits_36 : decode cX10_leftByDigits 36 = .ok (.l2i, 1) := by decide +kernel
theorem dX10_leftByDigits_37 : decode cX10_leftByDigits 37 = .ok (.ireturn, 1) := by decide +kernel
theorem dX10_leftByDividing_0 : decode cX10_leftByDividing 0 = .ok (.iload_n 1, 1) := by decide +kernel
theorem dX10_leftByDividing_1 : decode cX10_leftByDividing 1 = .ok (.invokestatic 70, 3) := by decide +kernel
theorem dX10_leftByDividing_4 : decode cX10_leftByDividing 4 = .ok (.aload_n 0, 1) := by decide +kernel
theorem dX10_leftByDividing_5 : decode cX10_leftByDividing 5 = .ok (.getfield 10, 3) := by decide +kernel
theorem dX10_leftByDividing_8 : decode cX10_leftByDividing 8 = .ok (.iload_n 1, 1) := by decide +kernel
theorem dX10_leftByDividing_9 : decode cX10_leftByDividing 9 = .ok (.invokevirtual 178, 3) := by decide +kernel
theorem dX10_leftByDividing_12 : decode cX10_leftByDividing 12 = .ok (.i2l, 1) := by decide +kernel
theorem dX10_leftByDividing_13 : decode cX10_leftByDividing 13 = .ok (.aload_n 0, 1) := by decide +kernel
theorem dX10_leftByDividing_14 : decode cX10_leftByDividing 14 = .ok (.getfield 10, 3) := by decide +kernel
theorem dX10_leftByDividing_17 : decode cX10_leftByDividing 17 = .ok (.getfield 66, 3) := by decide +kernel
theorem dX10_leftByDividing_20 : decode cX10_leftByDividing 20 = .ok (.iconst 1, 1) := by decide +kernel
theorem dX10_leftByDividing_21 : decode cX10_leftByDividing 21 = .ok (.isub, 1) := by decide +kernel
theorem dX10_leftByDividing_22 : decode cX10_leftByDividing 22 = .ok (.i2l, 1) := by decide +kernel
theorem dX10_leftByDividing_23 : decode cX10_leftByDividing 23 = .ok (.invokestatic 202, 3) := by decide +kernel
theorem dX10_leftByDividing_26 : decode cX10_leftByDividing 26 = .ok (.l2i, 1) := by decide +kernel
theorem dX10_leftByDividing_27 : decode cX10_leftByDividing 27 = .ok (.ireturn, 1) := by decide +kernel
theorem dX10_headLength_0 : decode cX10_headLength 0 = .ok (.iload_n 1, 1) := by decide +kernel
theorem dX10_headLength_1 : decode cX10_headLength 1 = .ok (.invokestatic 70, 3) := by decide +kernel
theorem dX10_headLength_4 : decode cX10_headLength 4 = .ok (.aload_n 0, 1) := by decide +kernel
theorem dX10_headLength_5 : decode cX10_headLength 5 = .ok (.getfield 10, 3) := by decide +kernel
theorem dX10_headLength_8 : decode cX10_headLength 8 = .ok (.iload_n 1, 1) := by decide +kernel
theorem dX10_headLength_9 : decode cX10_headLength 9 = .ok (.invokevirtual 90, 3) := by decide +kernel
theorem dX10_headLength_12 : decode cX10_headLength 12 = .ok (.i2l, 1) := by decide +kernel
theorem dX10_headLength_13 : decode cX10_headLength 13 = .ok (.aload_n 0, 1) := by decide +kernel
theorem dX10_headLength_14 : decode cX10_headLength 14 = .ok (.getfield 10, 3) := by decide +kernel
theorem dX10_headLength_17 : decode cX10_headLength 17 = .ok (.getfield 66, 3) := by decide +kernel
theorem dX10_headLength_20 : decode cX10_headLength 20 = .ok (.invokestatic 208, 3) := by decide +kernel
theorem dX10_headLength_23 : decode cX10_headLength 23 = .ok (.ireturn, 1) := by decide +kernel
theorem dX10_periodLength_0 : decode cX10_periodLength 0 = .ok (.iload_n 1, 1) := by decide +kernel
theorem dX10_periodLength_1 : decode cX10_periodLength 1 = .ok (.invokestatic 70, 3) := by decide +kernel
theorem dX10_periodLength_4 : decode cX10_periodLength 4 = .ok (.aload_n 0, 1) := by decide +kernel
theorem dX10_periodLength_5 : decode cX10_periodLength 5 = .ok (.getfield 10, 3) := by decide +kernel
theorem dX10_periodLength_8 : decode cX10_periodLength 8 = .ok (.iload_n 1, 1) := by decide +kernel
theorem dX10_periodLength_9 : decode cX10_periodLength 9 = .ok (.invokevirtual 90, 3) := by decide +kernel
theorem dX10_periodLength_12 : decode cX10_periodLength 12 = .ok (.istore_n 2, 1) := by decide +kernel
theorem dX10_periodLength_13 : decode cX10_periodLength 13 = .ok (.iload_n 2, 1) := by decide +kernel
theorem dX10_periodLength_14 : decode cX10_periodLength 14 = .ok (.i2l, 1) := by decide +kernel
theorem dX10_periodLength_15 : decode cX10_periodLength 15 = .ok (.aload_n 0, 1) := by decide +kernel
theorem dX10_periodLength_16 : decode cX10_periodLength 16 = .ok (.getfield 10, 3) := by decide +kernel
theorem dX10_periodLength_19 : decode cX10_periodLength 19 = .ok (.getfield 66, 3) := by decide +kernel
theorem dX10_periodLength_22 : decode cX10_periodLength 22 = .ok (.invokestatic 208, 3) := by decide +kernel
theorem dX10_periodLength_25 : decode cX10_periodLength 25 = .ok (.istore_n 3, 1) := by decide +kernel
theorem dX10_periodLength_26 : decode cX10_periodLength 26 = .ok (.aload_n 0, 1) := by decide +kernel
theorem dX10_periodLength_27 : decode cX10_periodLength 27 = .ok (.getfield 10, 3) := by decide +kernel
theorem dX10_periodLength_30 : decode cX10_periodLength 30 = .ok (.iload_n 1, 1) := by decide +kernel
theorem dX10_periodLength_31 : decode cX10_periodLength 31 = .ok (.invokevirtual 214, 3) := by decide +kernel
theorem dX10_periodLength_34 : decode cX10_periodLength 34 = .ok (.iload_n 2, 1) := by decide +kernel
theorem dX10_periodLength_35 : decode cX10_periodLength 35 = .ok (.i2l, 1) := by decide +kernel
theorem dX10_periodLength_36 : decode cX10_periodLength 36 = .ok (.aload_n 0, 1) := by decide +kernel
theorem dX10_periodLength_37 : decode cX10_periodLength 37 = .ok (.getfield 10, 3) := by decide +kernel
theorem dX10_periodLength_40 : decode cX10_periodLength 40 = .ok (.getfield 66, 3) := by decide +kernel
theorem dX10_periodLength_43 : decode cX10_periodLength 43 = .ok (.iload_n 3, 1) := by decide +kernel
theorem dX10_periodLength_44 : decode cX10_periodLength 44 = .ok (.invokestatic 218, 3) := by decide +kernel
theorem dX10_periodLength_47 : decode cX10_periodLength 47 = .ok (.ireturn, 1) := by decide +kernel
theorem dX10_periodByOrder_0 : decode cX10_periodByOrder 0 = .ok (.iload_n 1, 1) := by decide +kernel
theorem dX10_periodByOrder_1 : decode cX10_periodByOrder 1 = .ok (.invokestatic 70, 3) := by decide +kernel
theorem dX10_periodByOrder_4 : decode cX10_periodByOrder 4 = .ok (.aload_n 0, 1) := by decide +kernel
theorem dX10_periodByOrder_5 : decode cX10_periodByOrder 5 = .ok (.getfield 10, 3) := by decide +kernel
theorem dX10_periodByOrder_8 : decode cX10_periodByOrder 8 = .ok (.iload_n 1, 1) := by decide +kernel
theorem dX10_periodByOrder_9 : decode cX10_periodByOrder 9 = .ok (.invokevirtual 90, 3) := by decide +kernel
theorem dX10_periodByOrder_12 : decode cX10_periodByOrder 12 = .ok (.i2l, 1) := by decide +kernel
theorem dX10_periodByOrder_13 : decode cX10_periodByOrder 13 = .ok (.aload_n 0, 1) := by decide +kernel
theorem dX10_periodByOrder_14 : decode cX10_periodByOrder 14 = .ok (.getfield 10, 3) := by decide +kernel
theorem dX10_periodByOrder_17 : decode cX10_periodByOrder 17 = .ok (.getfield 66, 3) := by decide +kernel
theorem dX10_periodByOrder_20 : decode cX10_periodByOrder 20 = .ok (.invokestatic 222, 3) := by decide +kernel
theorem dX10_periodByOrder_23 : decode cX10_periodByOrder 23 = .ok (.lstore_n 2, 1) := by decide +kernel
theorem dX10_periodByOrder_24 : decode cX10_periodByOrder 24 = .ok (.aload_n 0, 1) := by decide +kernel
theorem dX10_periodByOrder_25 : decode cX10_periodByOrder 25 = .ok (.getfield 10, 3) := by decide +kernel
theorem dX10_periodByOrder_28 : decode cX10_periodByOrder 28 = .ok (.getfield 66, 3) := by decide +kernel
theorem dX10_periodByOrder_31 : decode cX10_periodByOrder 31 = .ok (.lload_n 2, 1) := by decide +kernel
theorem dX10_periodByOrder_32 : decode cX10_periodByOrder 32 = .ok (.sipush 999, 3) := by decide +kernel
theorem dX10_periodByOrder_35 : decode cX10_periodByOrder 35 = .ok (.invokestatic 226, 3) := by decide +kernel
theorem dX10_periodByOrder_38 : decode cX10_periodByOrder 38 = .ok (.ireturn, 1) := by decide +kernel
theorem dX10_digitBehind_0 : decode cX10_digitBehind 0 = .ok (.iload_n 1, 1) := by decide +kernel
theorem dX10_digitBehind_1 : decode cX10_digitBehind 1 = .ok (.invokestatic 70, 3) := by decide +kernel
theorem dX10_digitBehind_4 : decode cX10_digitBehind 4 = .ok (.iload_n 2, 1) := by decide +kernel
theorem dX10_digitBehind_5 : decode cX10_digitBehind 5 = .ok (.ifCond .lt 10, 3) := by decide +kernel
theorem dX10_digitBehind_8 : decode cX10_digitBehind 8 = .ok (.iload_n 2, 1) := by decide +kernel
theorem dX10_digitBehind_9 : decode cX10_digitBehind 9 = .ok (.sipush 2000, 3) := by decide +kernel
theorem dX10_digitBehind_12 : decode cX10_digitBehind 12 = .ok (.if_icmp .le 13, 3) := by decide +kernel
theorem dX10_digitBehind_15 : decode cX10_digitBehind 15 = .ok (.new 74, 3) := by decide +kernel
theorem dX10_digitBehind_18 : decode cX10_digitBehind 18 = .ok (.dup, 1) := by decide +kernel
theorem dX10_digitBehind_19 : decode cX10_digitBehind 19 = .ok (.ldc 230, 2) := by decide +kernel
theorem dX10_digitBehind_21 : decode cX10_digitBehind 21 = .ok (.invokespecial 78, 3) := by decide +kernel
theorem dX10_digitBehind_24 : decode cX10_digitBehind 24 = .ok (.athrow, 1) := by decide +kernel
theorem dX10_digitBehind_25 : decode cX10_digitBehind 25 = .ok (.aload_n 0, 1) := by decide +kernel
theorem dX10_digitBehind_26 : decode cX10_digitBehind 26 = .ok (.getfield 10, 3) := by decide +kernel
theorem dX10_digitBehind_29 : decode cX10_digitBehind 29 = .ok (.iload_n 1, 1) := by decide +kernel
theorem dX10_digitBehind_30 : decode cX10_digitBehind 30 = .ok (.invokevirtual 214, 3) := by decide +kernel
theorem dX10_digitBehind_33 : decode cX10_digitBehind 33 = .ok (.aload_n 0, 1) := by decide +kernel
theorem dX10_digitBehind_34 : decode cX10_digitBehind 34 = .ok (.getfield 10, 3) := by decide +kernel
theorem dX10_digitBehind_37 : decode cX10_digitBehind 37 = .ok (.iload_n 1, 1) := by decide +kernel
theorem dX10_digitBehind_38 : decode cX10_digitBehind 38 = .ok (.invokevirtual 90, 3) := by decide +kernel
theorem dX10_digitBehind_41 : decode cX10_digitBehind 41 = .ok (.i2l, 1) := by decide +kernel
theorem dX10_digitBehind_42 : decode cX10_digitBehind 42 = .ok (.aload_n 0, 1) := by decide +kernel
theorem dX10_digitBehind_43 : decode cX10_digitBehind 43 = .ok (.getfield 10, 3) := by decide +kernel
theorem dX10_digitBehind_46 : decode cX10_digitBehind 46 = .ok (.getfield 66, 3) := by decide +kernel
theorem dX10_digitBehind_49 : decode cX10_digitBehind 49 = .ok (.iload_n 2, 1) := by decide +kernel
theorem dX10_digitBehind_50 : decode cX10_digitBehind 50 = .ok (.invokestatic 232, 3) := by decide +kernel
theorem dX10_digitBehind_53 : decode cX10_digitBehind 53 = .ok (.ireturn, 1) := by decide +kernel
theorem dX10_shortestBase_0 : decode cX10_shortestBase 0 = .ok (.iload_n 1, 1) := by decide +kernel
theorem dX10_shortestBase_1 : decode cX10_shortestBase 1 = .ok (.invokestatic 70, 3) := by decide +kernel
theorem dX10_shortestBase_4 : decode cX10_shortestBase 4 = .ok (.aload_n 0, 1) := by decide +kernel
theorem dX10_shortestBase_5 : decode cX10_shortestBase 5 = .ok (.getfield 10, 3) := by decide +kernel
theorem dX10_shortestBase_8 : decode cX10_shortestBase 8 = .ok (.iload_n 1, 1) := by decide +kernel
theorem dX10_shortestBase_9 : decode cX10_shortestBase 9 = .ok (.invokevirtual 90, 3) := by decide +kernel
theorem dX10_shortestBase_12 : decode cX10_shortestBase 12 = .ok (.istore_n 2, 1) := by decide +kernel
theorem dX10_shortestBase_13 : decode cX10_shortestBase 13 = .ok (.iconst 2, 1) := by decide +kernel
theorem dX10_shortestBase_14 : decode cX10_shortestBase 14 = .ok (.istore_n 3, 1) := by decide +kernel
theorem dX10_shortestBase_15 : decode cX10_shortestBase 15 = .ok (.sipush 1998, 3) := by decide +kernel
theorem dX10_shortestBase_18 : decode cX10_shortestBase 18 = .ok (.istore 4, 2) := by decide +kernel
theorem dX10_shortestBase_20 : decode cX10_shortestBase 20 = .ok (.iconst 2, 1) := by decide +kernel
theorem dX10_shortestBase_21 : decode cX10_shortestBase 21 = .ok (.istore 5, 2) := by decide +kernel
theorem dX10_shortestBase_23 : decode cX10_shortestBase 23 = .ok (.iload 5, 2) := by decide +kernel
theorem dX10_shortestBase_25 : decode cX10_shortestBase 25 = .ok (.bipush 16, 2) := by decide +kernel
theorem dX10_shortestBase_27 : decode cX10_shortestBase 27 = .ok (.if_icmp .gt 51, 3) := by decide +kernel
theorem dX10_shortestBase_30 : decode cX10_shortestBase 30 = .ok (.iload 5, 2) := by decide +kernel
theorem dX10_shortestBase_32 : decode cX10_shortestBase 32 = .ok (.iload_n 2, 1) := by decide +kernel
theorem dX10_shortestBase_33 : decode cX10_shortestBase 33 = .ok (.i2l, 1) := by decide +kernel
theorem dX10_shortestBase_34 : decode cX10_shortestBase 34 = .ok (.iload 5, 2) := by decide +kernel
theorem dX10_shortestBase_36 : decode cX10_shortestBase 36 = .ok (.invokestatic 222, 3) := by decide +kernel
theorem dX10_shortestBase_39 : decode cX10_shortestBase 39 = .ok (.iload 4, 2) := by decide +kernel
theorem dX10_shortestBase_41 : decode cX10_shortestBase 41 = .ok (.invokestatic 226, 3) := by decide +kernel
theorem dX10_shortestBase_44 : decode cX10_shortestBase 44 = .ok (.istore 6, 2) := by decide +kernel
theorem dX10_shortestBase_46 : decode cX10_shortestBase 46 = .ok (.iload_n 2, 1) := by decide +kernel
theorem dX10_shortestBase_47 : decode cX10_shortestBase 47 = .ok (.i2l, 1) := by decide +kernel
theorem dX10_shortestBase_48 : decode cX10_shortestBase 48 = .ok (.iload 5, 2) := by decide +kernel
theorem dX10_shortestBase_50 : decode cX10_shortestBase 50 = .ok (.invokestatic 208, 3) := by decide +kernel
theorem dX10_shortestBase_53 : decode cX10_shortestBase 53 = .ok (.iload 6, 2) := by decide +kernel
theorem dX10_shortestBase_55 : decode cX10_shortestBase 55 = .ok (.iadd, 1) := by decide +kernel
theorem dX10_shortestBase_56 : decode cX10_shortestBase 56 = .ok (.istore 7, 2) := by decide +kernel
theorem dX10_shortestBase_58 : decode cX10_shortestBase 58 = .ok (.iload 7, 2) := by decide +kernel
theorem dX10_shortestBase_60 : decode cX10_shortestBase 60 = .ok (.iload 4, 2) := by decide +kernel
theorem dX10_shortestBase_62 : decode cX10_shortestBase 62 = .ok (.if_icmp .ge 10, 3) := by decide +kernel
theorem dX10_shortestBase_65 : decode cX10_shortestBase 65 = .ok (.iload 7, 2) := by decide +kernel
theorem dX10_shortestBase_67 : decode cX10_shortestBase 67 = .ok (.istore 4, 2) := by decide +kernel
theorem dX10_shortestBase_69 : decode cX10_shortestBase 69 = .ok (.iload 5, 2) := by decide +kernel
theorem dX10_shortestBase_71 : decode cX10_shortestBase 71 = .ok (.istore_n 3, 1) := by decide +kernel
theorem dX10_shortestBase_72 : decode cX10_shortestBase 72 = .ok (.iinc 5 1, 3) := by decide +kernel
theorem dX10_shortestBase_75 : decode cX10_shortestBase 75 = .ok (.goto (-52), 3) := by decide +kernel
theorem dX10_shortestBase_78 : decode cX10_shortestBase 78 = .ok (.iload_n 3, 1) := by decide +kernel
theorem dX10_shortestBase_79 : decode cX10_shortestBase 79 = .ok (.ireturn, 1) := by decide +kernel
theorem dX10_writtenLength_0 : decode cX10_writtenLength 0 = .ok (.iload_n 1, 1) := by decide +kernel
theorem dX10_writtenLength_1 : decode cX10_writtenLength 1 = .ok (.invokestatic 70, 3) := by decide +kernel
theorem dX10_writtenLength_4 : decode cX10_writtenLength 4 = .ok (.aload_n 0, 1) := by decide +kernel
theorem dX10_writtenLength_5 : decode cX10_writtenLength 5 = .ok (.getfield 10, 3) := by decide +kernel
theorem dX10_writtenLength_8 : decode cX10_writtenLength 8 = .ok (.iload_n 1, 1) := by decide +kernel
theorem dX10_writtenLength_9 : decode cX10_writtenLength 9 = .ok (.invokevirtual 178, 3) := by decide +kernel
theorem dX10_writtenLength_12 : decode cX10_writtenLength 12 = .ok (.aload_n 0, 1) := by decide +kernel
theorem dX10_writtenLength_13 : decode cX10_writtenLength 13 = .ok (.getfield 10, 3) := by decide +kernel
theorem dX10_writtenLength_16 : decode cX10_writtenLength 16 = .ok (.getfield 66, 3) := by decide +kernel
theorem dX10_writtenLength_19 : decode cX10_writtenLength 19 = .ok (.invokestatic 185, 3) := by decide +kernel
theorem dX10_writtenLength_22 : decode cX10_writtenLength 22 = .ok (.istore_n 2, 1) := by decide +kernel
theorem dX10_writtenLength_23 : decode cX10_writtenLength 23 = .ok (.aload_n 0, 1) := by decide +kernel
theorem dX10_writtenLength_24 : decode cX10_writtenLength 24 = .ok (.getfield 10, 3) := by decide +kernel
theorem dX10_writtenLength_27 : decode cX10_writtenLength 27 = .ok (.iload_n 1, 1) := by decide +kernel
theorem dX10_writtenLength_28 : decode cX10_writtenLength 28 = .ok (.invokevirtual 90, 3) := by decide +kernel
theorem dX10_writtenLength_31 : decode cX10_writtenLength 31 = .ok (.istore_n 3, 1) := by decide +kernel
theorem dX10_writtenLength_32 : decode cX10_writtenLength 32 = .ok (.iload_n 3, 1) := by decide +kernel
theorem dX10_writtenLength_33 : decode cX10_writtenLength 33 = .ok (.i2l, 1) := by decide +kernel
theorem dX10_writtenLength_34 : decode cX10_writtenLength 34 = .ok (.aload_n 0, 1) := by decide +kernel
theorem dX10_writtenLength_35 : decode cX10_writtenLength 35 = .ok (.getfield 10, 3) := by decide +kernel
theorem dX10_writtenLength_38 : decode cX10_writtenLength 38 = .ok (.getfield 66, 3) := by decide +kernel
theorem dX10_writtenLength_41 : decode cX10_writtenLength 41 = .ok (.invokestatic 208, 3) := by decide +kernel
theorem dX10_writtenLength_44 : decode cX10_writtenLength 44 = .ok (.istore 4, 2) := by decide +kernel
theorem dX10_writtenLength_46 : decode cX10_writtenLength 46 = .ok (.aload_n 0, 1) := by decide +kernel
theorem dX10_writtenLength_47 : decode cX10_writtenLength 47 = .ok (.getfield 10, 3) := by decide +kernel
theorem dX10_writtenLength_50 : decode cX10_writtenLength 50 = .ok (.iload_n 1, 1) := by decide +kernel
theorem dX10_writtenLength_51 : decode cX10_writtenLength 51 = .ok (.invokevirtual 214, 3) := by decide +kernel
theorem dX10_writtenLength_54 : decode cX10_writtenLength 54 = .ok (.iload_n 3, 1) := by decide +kernel
theorem dX10_writtenLength_55 : decode cX10_writtenLength 55 = .ok (.i2l, 1) := by decide +kernel
theorem dX10_writtenLength_56 : decode cX10_writtenLength 56 = .ok (.aload_n 0, 1) := by decide +kernel
theorem dX10_writtenLength_57 : decode cX10_writtenLength 57 = .ok (.getfield 10, 3) := by decide +kernel
theorem dX10_writtenLength_60 : decode cX10_writtenLength 60 = .ok (.getfield 66, 3) := by decide +kernel
theorem dX10_writtenLength_63 : decode cX10_writtenLength 63 = .ok (.iload 4, 2) := by decide +kernel
theorem dX10_writtenLength_65 : decode cX10_writtenLength 65 = .ok (.invokestatic 218, 3) := by decide +kernel
theorem dX10_writtenLength_68 : decode cX10_writtenLength 68 = .ok (.istore 5, 2) := by decide +kernel
theorem dX10_writtenLength_70 : decode cX10_writtenLength 70 = .ok (.iload 4, 2) := by decide +kernel
theorem dX10_writtenLength_72 : decode cX10_writtenLength 72 = .ok (.iload 5, 2) := by decide +kernel
theorem dX10_writtenLength_74 : decode cX10_writtenLength 74 = .ok (.iadd, 1) := by decide +kernel
theorem dX10_writtenLength_75 : decode cX10_writtenLength 75 = .ok (.ifCond .le 10, 3) := by decide +kernel
theorem dX10_writtenLength_78 : decode cX10_writtenLength 78 = .ok (.iload_n 2, 1) := by decide +kernel
theorem dX10_writtenLength_79 : decode cX10_writtenLength 79 = .ok (.iconst 1, 1) := by decide +kernel
theorem dX10_writtenLength_80 : decode cX10_writtenLength 80 = .ok (.iload 4, 2) := by decide +kernel
theorem dX10_writtenLength_82 : decode cX10_writtenLength 82 = .ok (.iadd, 1) := by decide +kernel
theorem dX10_writtenLength_83 : decode cX10_writtenLength 83 = .ok (.iadd, 1) := by decide +kernel
theorem dX10_writtenLength_84 : decode cX10_writtenLength 84 = .ok (.istore_n 2, 1) := by decide +kernel
theorem dX10_writtenLength_85 : decode cX10_writtenLength 85 = .ok (.iload 5, 2) := by decide +kernel
theorem dX10_writtenLength_87 : decode cX10_writtenLength 87 = .ok (.ifCond .le 10, 3) := by decide +kernel
theorem dX10_writtenLength_90 : decode cX10_writtenLength 90 = .ok (.iload_n 2, 1) := by decide +kernel
theorem dX10_writtenLength_91 : decode cX10_writtenLength 91 = .ok (.iconst 2, 1) := by decide +kernel
theorem dX10_writtenLength_92 : decode cX10_writtenLength 92 = .ok (.iload 5, 2) := by decide +kernel
theorem dX10_writtenLength_94 : decode cX10_writtenLength 94 = .ok (.iadd, 1) := by decide +kernel
theorem dX10_writtenLength_95 : decode cX10_writtenLength 95 = .ok (.iadd, 1) := by decide +kernel
theorem dX10_writtenLength_96 : decode cX10_writtenLength 96 = .ok (.istore_n 2, 1) := by decide +kernel
theorem dX10_writtenLength_97 : decode cX10_writtenLength 97 = .ok (.iload_n 2, 1) := by decide +kernel
theorem dX10_writtenLength_98 : decode cX10_writtenLength 98 = .ok (.ireturn, 1) := by decide +kernel
theorem dX10_writtenAt_0 : decode cX10_writtenAt 0 = .ok (.iload_n 1, 1) := by decide +kernel
theorem dX10_writtenAt_1 : decode cX10_writtenAt 1 = .ok (.invokestatic 70, 3) := by decide +kernel
theorem dX10_writtenAt_4 : decode cX10_writtenAt 4 = .ok (.iload_n 2, 1) := by decide +kernel
theorem dX10_writtenAt_5 : decode cX10_writtenAt 5 = .ok (.ifCond .lt 12, 3) := by decide +kernel
theorem dX10_writtenAt_8 : decode cX10_writtenAt 8 = .ok (.iload_n 2, 1) := by decide +kernel
theorem dX10_writtenAt_9 : decode cX10_writtenAt 9 = .ok (.aload_n 0, 1) := by decide +kernel
theorem dX10_writtenAt_10 : decode cX10_writtenAt 10 = .ok (.iload_n 1, 1) := by decide +kernel
theorem dX10_writtenAt_11 : decode cX10_writtenAt 11 = .ok (.invokevirtual 235, 3) := by decide +kernel
theorem dX10_writtenAt_14 : decode cX10_writtenAt 14 = .ok (.if_icmp .lt 13, 3) := by decide +kernel
theorem dX10_writtenAt_17 : decode cX10_writtenAt 17 = .ok (.new 238, 3) := by decide +kernel
theorem dX10_writtenAt_20 : decode cX10_writtenAt 20 = .ok (.dup, 1) := by decide +kernel
theorem dX10_writtenAt_21 : decode cX10_writtenAt 21 = .ok (.ldc 240, 2) := by decide +kernel
theorem dX10_writtenAt_23 : decode cX10_writtenAt 23 = .ok (.invokespecial 242, 3) := by decide +kernel
theorem dX10_writtenAt_26 : decode cX10_writtenAt 26 = .ok (.athrow, 1) := by decide +kernel
theorem dX10_writtenAt_27 : decode cX10_writtenAt 27 = .ok (.aload_n 0, 1) := by decide +kernel
theorem dX10_writtenAt_28 : decode cX10_writtenAt 28 = .ok (.getfield 10, 3) := by decide +kernel
theorem dX10_writtenAt_31 : decode cX10_writtenAt 31 = .ok (.iload_n 1, 1) := by decide +kernel
theorem dX10_writtenAt_32 : decode cX10_writtenAt 32 = .ok (.invokevirtual 178, 3) := by decide +kernel
theorem dX10_writtenAt_35 : decode cX10_writtenAt 35 = .ok (.istore_n 3, 1) := by decide +kernel
theorem dX10_writtenAt_36 : decode cX10_writtenAt 36 = .ok (.iload_n 3, 1) := by decide +kernel
theorem dX10_writtenAt_37 : decode cX10_writtenAt 37 = .ok (.aload_n 0, 1) := by decide +kernel
theorem dX10_writtenAt_38 : decode cX10_writtenAt 38 = .ok (.getfield 10, 3) := by decide +kernel
theorem dX10_writtenAt_41 : decode cX10_writtenAt 41 = .ok (.getfield 66, 3) := by decide +kernel
theorem dX10_writtenAt_44 : decode cX10_writtenAt 44 = .ok (.invokestatic 185, 3) := by decide +kernel
theorem dX10_writtenAt_47 : decode cX10_writtenAt 47 = .ok (.istore 4, 2) := by decide +kernel
theorem dX10_writtenAt_49 : decode cX10_writtenAt 49 = .ok (.iload_n 2, 1) := by decide +kernel
theorem dX10_writtenAt_50 : decode cX10_writtenAt 50 = .ok (.iload 4, 2) := by decide +kernel
theorem dX10_writtenAt_52 : decode cX10_writtenAt 52 = .ok (.if_icmp .ge 24, 3) := by decide +kernel
theorem dX10_writtenAt_55 : decode cX10_writtenAt 55 = .ok (.iload_n 3, 1) := by decide +kernel
theorem dX10_writtenAt_56 : decode cX10_writtenAt 56 = .ok (.aload_n 0, 1) := by decide +kernel
theorem dX10_writtenAt_57 : decode cX10_writtenAt 57 = .ok (.getfield 10, 3) := by decide +kernel
theorem dX10_writtenAt_60 : decode cX10_writtenAt 60 = .ok (.getfield 66, 3) := by decide +kernel
theorem dX10_writtenAt_63 : decode cX10_writtenAt 63 = .ok (.iload 4, 2) := by decide +kernel
theorem dX10_writtenAt_65 : decode cX10_writtenAt 65 = .ok (.iconst 1, 1) := by decide +kernel
theorem dX10_writtenAt_66 : decode cX10_writtenAt 66 = .ok (.isub, 1) := by decide +kernel
theorem dX10_writtenAt_67 : decode cX10_writtenAt 67 = .ok (.iload_n 2, 1) := by decide +kernel
theorem dX10_writtenAt_68 : decode cX10_writtenAt 68 = .ok (.isub, 1) := by decide +kernel
theorem dX10_writtenAt_69 : decode cX10_writtenAt 69 = .ok (.invokestatic 192, 3) := by decide +kernel
theorem dX10_writtenAt_72 : decode cX10_writtenAt 72 = .ok (.invokestatic 243, 3) := by decide +kernel
theorem dX10_writtenAt_75 : decode cX10_writtenAt 75 = .ok (.ireturn, 1) := by decide +kernel
theorem dX10_writtenAt_76 : decode cX10_writtenAt 76 = .ok (.aload_n 0, 1) := by decide +kernel
theorem dX10_writtenAt_77 : decode cX10_writtenAt 77 = .ok (.iload_n 1, 1) := by decide +kernel
theorem dX10_writtenAt_78 : decode cX10_writtenAt 78 = .ok (.iload_n 2, 1) := by decide +kernel
theorem dX10_writtenAt_79 : decode cX10_writtenAt 79 = .ok (.iload 4, 2) := by decide +kernel
theorem dX10_writtenAt_81 : decode cX10_writtenAt 81 = .ok (.isub, 1) := by decide +kernel
theorem dX10_writtenAt_82 : decode cX10_writtenAt 82 = .ok (.invokevirtual 246, 3) := by decide +kernel
theorem dX10_writtenAt_85 : decode cX10_writtenAt 85 = .ok (.ireturn, 1) := by decide +kernel
theorem dX10_carries_0 : decode cX10_carries 0 = .ok (.iload_n 1, 1) := by decide +kernel
theorem dX10_carries_1 : decode cX10_carries 1 = .ok (.iload_n 2, 1) := by decide +kernel
theorem dX10_carries_2 : decode cX10_carries 2 = .ok (.invokestatic 94, 3) := by decide +kernel
theorem dX10_carries_5 : decode cX10_carries 5 = .ok (.aload_n 0, 1) := by decide +kernel
theorem dX10_carries_6 : decode cX10_carries 6 = .ok (.iload_n 1, 1) := by decide +kernel
theorem dX10_carries_7 : decode cX10_carries 7 = .ok (.iload_n 2, 1) := by decide +kernel
theorem dX10_carries_8 : decode cX10_carries 8 = .ok (.invokevirtual 249, 3) := by decide +kernel
theorem dX10_carries_11 : decode cX10_carries 11 = .ok (.aload_n 0, 1) := by decide +kernel
theorem dX10_carries_12 : decode cX10_carries 12 = .ok (.getfield 54, 3) := by decide +kernel
theorem dX10_carries_15 : decode cX10_carries 15 = .ok (.getfield 252, 3) := by decide +kernel
theorem dX10_carries_18 : decode cX10_carries 18 = .ok (.ireturn, 1) := by decide +kernel
theorem dX10_longestChain_0 : decode cX10_longestChain 0 = .ok (.iload_n 1, 1) := by decide +kernel
theorem dX10_longestChain_1 : decode cX10_longestChain 1 = .ok (.iload_n 2, 1) := by decide +kernel
theorem dX10_longestChain_2 : decode cX10_longestChain 2 = .ok (.invokestatic 94, 3) := by decide +kernel
theorem dX10_longestChain_5 : decode cX10_longestChain 5 = .ok (.aload_n 0, 1) := by decide +kernel
theorem dX10_longestChain_6 : decode cX10_longestChain 6 = .ok (.iload_n 1, 1) := by decide +kernel
theorem dX10_longestChain_7 : decode cX10_longestChain 7 = .ok (.iload_n 2, 1) := by decide +kernel
theorem dX10_longestChain_8 : decode cX10_longestChain 8 = .ok (.invokevirtual 249, 3) := by decide +kernel
theorem dX10_longestChain_11 : decode cX10_longestChain 11 = .ok (.aload_n 0, 1) := by decide +kernel
theorem dX10_longestChain_12 : decode cX10_longestChain 12 = .ok (.getfield 54, 3) := by decide +kernel
theorem dX10_longestChain_15 : decode cX10_longestChain 15 = .ok (.getfield 255, 3) := by decide +kernel
theorem dX10_longestChain_18 : decode cX10_longestChain 18 = .ok (.ireturn, 1) := by decide +kernel
theorem dX10_sumDigit_0 : decode cX10_sumDigit 0 = .ok (.iload_n 1, 1) := by decide +kernel
theorem dX10_sumDigit_1 : decode cX10_sumDigit 1 = .ok (.iload_n 2, 1) := by decide +kernel
theorem dX10_sumDigit_2 : decode cX10_sumDigit 2 = .ok (.invokestatic 94, 3) := by decide +kernel
theorem dX10_sumDigit_5 : decode cX10_sumDigit 5 = .ok (.aload_n 0, 1) := by decide +kernel
theorem dX10_sumDigit_6 : decode cX10_sumDigit 6 = .ok (.iload_n 1, 1) := by decide +kernel
theorem dX10_sumDigit_7 : decode cX10_sumDigit 7 = .ok (.iload_n 2, 1) := by decide +kernel
theorem dX10_sumDigit_8 : decode cX10_sumDigit 8 = .ok (.invokevirtual 249, 3) := by decide +kernel
theorem dX10_sumDigit_11 : decode cX10_sumDigit 11 = .ok (.iload_n 3, 1) := by decide +kernel
theorem dX10_sumDigit_12 : decode cX10_sumDigit 12 = .ok (.ifCond .lt 14, 3) := by decide +kernel
theorem dX10_sumDigit_15 : decode cX10_sumDigit 15 = .ok (.iload_n 3, 1) := by decide +kernel
theorem dX10_sumDigit_16 : decode cX10_sumDigit 16 = .ok (.aload_n 0, 1) := by decide +kernel
theorem dX10_sumDigit_17 : decode cX10_sumDigit 17 = .ok (.getfield 54, 3) := by decide +kernel
theorem dX10_sumDigit_20 : decode cX10_sumDigit 20 = .ok (.getfield 258, 3) := by decide +kernel
theorem dX10_sumDigit_23 : decode cX10_sumDigit 23 = .ok (.if_icmp .lt 14, 3) := by decide +kernel
theorem dX10_sumDigit_26 : decode cX10_sumDigit 26 = .ok (.new 238, 3) := by decide +kernel
theorem dX10_sumDigit_29 : decode cX10_sumDigit 29 = .ok (.dup, 1) := by decide +kernel
theorem dX10_sumDigit_30 : decode cX10_sumDigit 30 = .ok (.ldc_w 259, 3) := by decide +kernel
theorem dX10_sumDigit_33 : decode cX10_sumDigit 33 = .ok (.invokespecial 242, 3) := by decide +kernel
theorem dX10_sumDigit_36 : decode cX10_sumDigit 36 = .ok (.athrow, 1) := by decide +kernel
theorem dX10_sumDigit_37 : decode cX10_sumDigit 37 = .ok (.aload_n 0, 1) := by decide +kernel
theorem dX10_sumDigit_38 : decode cX10_sumDigit 38 = .ok (.getfield 54, 3) := by decide +kernel
theorem dX10_sumDigit_41 : decode cX10_sumDigit 41 = .ok (.iload_n 3, 1) := by decide +kernel
theorem dX10_sumDigit_42 : decode cX10_sumDigit 42 = .ok (.invokevirtual 261, 3) := by decide +kernel
theorem dX10_sumDigit_45 : decode cX10_sumDigit 45 = .ok (.ireturn, 1) := by decide +kernel
theorem dX10_sumByColumns_0 : decode cX10_sumByColumns 0 = .ok (.iload_n 1, 1) := by decide +kernel
theorem dX10_sumByColumns_1 : decode cX10_sumByColumns 1 = .ok (.iload_n 2, 1) := by decide +kernel
theorem dX10_sumByColumns_2 : decode cX10_sumByColumns 2 = .ok (.invokestatic 94, 3) := by decide +kernel
theorem dX10_sumByColumns_5 : decode cX10_sumByColumns 5 = .ok (.aload_n 0, 1) := by decide +kernel
theorem dX10_sumByColumns_6 : decode cX10_sumByColumns 6 = .ok (.iload_n 1, 1) := by decide +kernel
theorem dX10_sumByColumns_7 : decode cX10_sumByColumns 7 = .ok (.iload_n 2, 1) := by decide +kernel
theorem dX10_sumByColumns_8 : decode cX10_sumByColumns 8 = .ok (.invokevirtual 249, 3) := by decide +kernel
theorem dX10_sumByColumns_11 : decode cX10_sumByColumns 11 = .ok (.aload_n 0, 1) := by decide +kernel
theorem dX10_sumByColumns_12 : decode cX10_sumByColumns 12 = .ok (.getfield 54, 3) := by decide +kernel
theorem dX10_sumByColumns_15 : decode cX10_sumByColumns 15 = .ok (.aload_n 0, 1) := by decide +kernel
theorem dX10_sumByColumns_16 : decode cX10_sumByColumns 16 = .ok (.getfield 10, 3) := by decide +kernel
theorem dX10_sumByColumns_19 : decode cX10_sumByColumns 19 = .ok (.getfield 66, 3) := by decide +kernel
theorem dX10_sumByColumns_22 : decode cX10_sumByColumns 22 = .ok (.invokevirtual 264, 3) := by decide +kernel
theorem dX10_sumByColumns_25 : decode cX10_sumByColumns 25 = .ok (.lreturn, 1) := by decide +kernel
theorem dX10_readIn_0 : decode cX10_readIn 0 = .ok (.iload_n 1, 1) := by decide +kernel
theorem dX10_readIn_1 : decode cX10_readIn 1 = .ok (.invokestatic 70, 3) := by decide +kernel
theorem dX10_readIn_4 : decode cX10_readIn 4 = .ok (.iload_n 2, 1) := by decide +kernel
theorem dX10_readIn_5 : decode cX10_readIn 5 = .ok (.invokestatic 58, 3) := by decide +kernel
theorem dX10_readIn_8 : decode cX10_readIn 8 = .ok (.aload_n 0, 1) := by decide +kernel
theorem dX10_readIn_9 : decode cX10_readIn 9 = .ok (.getfield 10, 3) := by decide +kernel
theorem dX10_readIn_12 : decode cX10_readIn 12 = .ok (.iload_n 1, 1) := by decide +kernel
theorem dX10_readIn_13 : decode cX10_readIn 13 = .ok (.invokevirtual 178, 3) := by decide +kernel
theorem dX10_readIn_16 : decode cX10_readIn 16 = .ok (.istore_n 3, 1) := by decide +kernel
theorem dX10_readIn_17 : decode cX10_readIn 17 = .ok (.lconst 0, 1) := by decide +kernel
theorem dX10_readIn_18 : decode cX10_readIn 18 = .ok (.lstore 4, 2) := by decide +kernel
theorem dX10_readIn_20 : decode cX10_readIn 20 = .ok (.iload_n 3, 1) := by decide +kernel
theorem dX10_readIn_21 : decode cX10_readIn 21 = .ok (.aload_n 0, 1) := by decide +kernel
theorem dX10_readIn_22 : decode cX10_readIn 22 = .ok (.getfield 10, 3) := by decide +kernel
theorem dX10_readIn_25 : decode cX10_readIn 25 = .ok (.getfield 66, 3) := by decide +kernel
theorem dX10_readIn_28 : decode cX10_readIn 28 = .ok (.invokestatic 185, 3) := by decide +kernel
theorem dX10_readIn_31 : decode cX10_readIn 31 = .ok (.iconst 1, 1) := by decide +kernel
theorem dX10_readIn_32 : decode cX10_readIn 32 = .ok (.isub, 1) := by decide +kernel
theorem dX10_readIn_33 : decode cX10_readIn 33 = .ok (.istore 6, 2) := by decide +kernel
theorem dX10_readIn_35 : decode cX10_readIn 35 = .ok (.iload 6, 2) := by decide +kernel
theorem dX10_readIn_37 : decode cX10_readIn 37 = .ok (.ifCond .lt 54, 3) := by decide +kernel
theorem dX10_readIn_40 : decode cX10_readIn 40 = .ok (.iload_n 3, 1) := by decide +kernel
theorem dX10_readIn_41 : decode cX10_readIn 41 = .ok (.aload_n 0, 1) := by decide +kernel
theorem dX10_readIn_42 : decode cX10_readIn 42 = .ok (.getfield 10, 3) := by decide +kernel
theorem dX10_readIn_45 : decode cX10_readIn 45 = .ok (.getfield 66, 3) := by decide +kernel
theorem dX10_readIn_48 : decode cX10_readIn 48 = .ok (.iload 6, 2) := by decide +kernel
theorem dX10_readIn_50 : decode cX10_readIn 50 = .ok (.invokestatic 192, 3) := by decide +kernel
theorem dX10_readIn_53 : decode cX10_readIn 53 = .ok (.istore 7, 2) := by decide +kernel
theorem dX10_readIn_55 : decode cX10_readIn 55 = .ok (.lload 4, 2) := by decide +kernel
theorem dX10_readIn_57 : decode cX10_readIn 57 = .ok (.iload_n 2, 1) := by decide +kernel
theorem dX10_readIn_58 : decode cX10_readIn 58 = .ok (.i2l, 1) := by decide +kernel
theorem dX10_readIn_59 : decode cX10_readIn 59 = .ok (.lmul, 1) := by decide +kernel
theorem dX10_readIn_60 : decode cX10_readIn 60 = .ok (.iload 7, 2) := by decide +kernel
theorem dX10_readIn_62 : decode cX10_readIn 62 = .ok (.i2l, 1) := by decide +kernel
theorem dX10_readIn_63 : decode cX10_readIn 63 = .ok (.ladd, 1) := by decide +kernel
theorem dX10_readIn_64 : decode cX10_readIn 64 = .ok (.lstore 4, 2) := by decide +kernel
theorem dX10_readIn_66 : decode cX10_readIn 66 = .ok (.iload 7, 2) := by decide +kernel
theorem dX10_readIn_68 : decode cX10_readIn 68 = .ok (.iload_n 2, 1) := by decide +kernel
theorem dX10_readIn_69 : decode cX10_readIn 69 = .ok (.if_icmp .ge 12, 3) := by decide +kernel
theorem dX10_readIn_72 : decode cX10_readIn 72 = .ok (.lload 4, 2) := by decide +kernel
theorem dX10_readIn_74 : decode cX10_readIn 74 = .ok (.ldc2_w 267, 3) := by decide +kernel
theorem dX10_readIn_77 : decode cX10_readIn 77 = .ok (.lcmp, 1) := by decide +kernel
theorem dX10_readIn_78 : decode cX10_readIn 78 = .ok (.ifCond .le 7, 3) := by decide +kernel
theorem dX10_readIn_81 : decode cX10_readIn 81 = .ok (.ldc2_w 269, 3) := by decide +kernel
theorem dX10_readIn_84 : decode cX10_readIn 84 = .ok (.lreturn, 1) := by decide +kernel
theorem dX10_readIn_85 : decode cX10_readIn 85 = .ok (.iinc 6 (-1), 3) := by decide +kernel
theorem dX10_readIn_88 : decode cX10_readIn 88 = .ok (.goto (-53), 3) := by decide +kernel
theorem dX10_readIn_91 : decode cX10_readIn 91 = .ok (.lload 4, 2) := by decide +kernel
theorem dX10_readIn_93 : decode cX10_readIn 93 = .ok (.lreturn, 1) := by decide +kernel
theorem dX10_whyNoSum_0 : decode cX10_whyNoSum 0 = .ok (.iload_n 1, 1) := by decide +kernel
theorem dX10_whyNoSum_1 : decode cX10_whyNoSum 1 = .ok (.iload_n 2, 1) := by decide +kernel
theorem dX10_whyNoSum_2 : decode cX10_whyNoSum 2 = .ok (.invokestatic 94, 3) := by decide +kernel
theorem dX10_whyNoSum_5 : decode cX10_whyNoSum 5 = .ok (.aload_n 0, 1) := by decide +kernel
theorem dX10_whyNoSum_6 : decode cX10_whyNoSum 6 = .ok (.iload_n 1, 1) := by decide +kernel
theorem dX10_whyNoSum_7 : decode cX10_whyNoSum 7 = .ok (.iload_n 2, 1) := by decide +kernel
theorem dX10_whyNoSum_8 : decode cX10_whyNoSum 8 = .ok (.invokevirtual 98, 3) := by decide +kernel
theorem dX10_whyNoSum_11 : decode cX10_whyNoSum 11 = .ok (.aload_n 0, 1) := by decide +kernel
theorem dX10_whyNoSum_12 : decode cX10_whyNoSum 12 = .ok (.getfield 40, 3) := by decide +kernel
theorem dX10_whyNoSum_15 : decode cX10_whyNoSum 15 = .ok (.getfield 271, 3) := by decide +kernel
theorem dX10_whyNoSum_18 : decode cX10_whyNoSum 18 = .ok (.ldc2_w 275, 3) := by decide +kernel
theorem dX10_whyNoSum_21 : decode cX10_whyNoSum 21 = .ok (.lcmp, 1) := by decide +kernel
theorem dX10_whyNoSum_22 : decode cX10_whyNoSum 22 = .ok (.ifCond .le 5, 3) := by decide +kernel
theorem dX10_whyNoSum_25 : decode cX10_whyNoSum 25 = .ok (.iconst 1, 1) := by decide +kernel
theorem dX10_whyNoSum_26 : decode cX10_whyNoSum 26 = .ok (.ireturn, 1) := by decide +kernel
theorem dX10_whyNoSum_27 : decode cX10_whyNoSum 27 = .ok (.aload_n 0, 1) := by decide +kernel
theorem dX10_whyNoSum_28 : decode cX10_whyNoSum 28 = .ok (.getfield 40, 3) := by decide +kernel
theorem dX10_whyNoSum_31 : decode cX10_whyNoSum 31 = .ok (.getfield 277, 3) := by decide +kernel
theorem dX10_whyNoSum_34 : decode cX10_whyNoSum 34 = .ok (.ldc2_w 280, 3) := by decide +kernel
theorem dX10_whyNoSum_37 : decode cX10_whyNoSum 37 = .ok (.lcmp, 1) := by decide +kernel
theorem dX10_whyNoSum_38 : decode cX10_whyNoSum 38 = .ok (.ifCond .le 7, 3) := by decide +kernel
theorem dX10_whyNoSum_41 : decode cX10_whyNoSum 41 = .ok (.iconst 2, 1) := by decide +kernel
theorem dX10_whyNoSum_42 : decode cX10_whyNoSum 42 = .ok (.goto 4, 3) := by decide +kernel
theorem dX10_whyNoSum_45 : decode cX10_whyNoSum 45 = .ok (.iconst 0, 1) := by decide +kernel
theorem dX10_whyNoSum_46 : decode cX10_whyNoSum 46 = .ok (.ireturn, 1) := by decide +kernel
theorem dX10_periodOfSum_0 : decode cX10_periodOfSum 0 = .ok (.iload_n 1, 1) := by decide +kernel
theorem dX10_periodOfSum_1 : decode cX10_periodOfSum 1 = .ok (.iload_n 2, 1) := by decide +kernel
theorem dX10_periodOfSum_2 : decode cX10_periodOfSum 2 = .ok (.invokestatic 94, 3) := by decide +kernel
theorem dX10_periodOfSum_5 : decode cX10_periodOfSum 5 = .ok (.aload_n 0, 1) := by decide +kernel
theorem dX10_periodOfSum_6 : decode cX10_periodOfSum 6 = .ok (.iload_n 1, 1) := by decide +kernel
theorem dX10_periodOfSum_7 : decode cX10_periodOfSum 7 = .ok (.iload_n 2, 1) := by decide +kernel
theorem dX10_periodOfSum_8 : decode cX10_periodOfSum 8 = .ok (.invokevirtual 98, 3) := by decide +kernel
theorem dX10_periodOfSum_11 : decode cX10_periodOfSum 11 = .ok (.aload_n 0, 1) := by decide +kernel
theorem dX10_periodOfSum_12 : decode cX10_periodOfSum 12 = .ok (.getfield 40, 3) := by decide +kernel
theorem dX10_periodOfSum_15 : decode cX10_periodOfSum 15 = .ok (.getfield 277, 3) := by decide +kernel
theorem dX10_periodOfSum_18 : decode cX10_periodOfSum 18 = .ok (.aload_n 0, 1) := by decide +kernel
theorem dX10_periodOfSum_19 : decode cX10_periodOfSum 19 = .ok (.getfield 10, 3) := by decide +kernel
theorem dX10_periodOfSum_22 : decode cX10_periodOfSum 22 = .ok (.getfield 66, 3) := by decide +kernel
theorem dX10_periodOfSum_25 : decode cX10_periodOfSum 25 = .ok (.invokestatic 222, 3) := by decide +kernel
theorem dX10_periodOfSum_28 : decode cX10_periodOfSum 28 = .ok (.aload_n 0, 1) := by decide +kernel
theorem dX10_periodOfSum_29 : decode cX10_periodOfSum 29 = .ok (.getfield 10, 3) := by decide +kernel
theorem dX10_periodOfSum_32 : decode cX10_periodOfSum 32 = .ok (.getfield 66, 3) := by decide +kernel
theorem dX10_periodOfSum_35 : decode cX10_periodOfSum 35 = .ok (.invokestatic 282, 3) := by decide +kernel
theorem dX10_periodOfSum_38 : decode cX10_periodOfSum 38 = .ok (.ireturn, 1) := by decide +kernel
theorem dX10_shareOf_0 : decode cX10_shareOf 0 = .ok (.iload_n 1, 1) := by decide +kernel
theorem dX10_shareOf_1 : decode cX10_shareOf 1 = .ok (.invokestatic 70, 3) := by decide +kernel
theorem dX10_shareOf_4 : decode cX10_shareOf 4 = .ok (.dconst 0, 1) := by decide +kernel
theorem dX10_shareOf_5 : decode cX10_shareOf 5 = .ok (.dstore_n 2, 1) := by decide +kernel
theorem dX10_shareOf_6 : decode cX10_shareOf 6 = .ok (.iconst 0, 1) := by decide +kernel
theorem dX10_shareOf_7 : decode cX10_shareOf 7 = .ok (.istore 4, 2) := by decide +kernel
theorem dX10_shareOf_9 : decode cX10_shareOf 9 = .ok (.iload 4, 2) := by decide +kernel
theorem dX10_shareOf_11 : decode cX10_shareOf 11 = .ok (.bipush 6, 2) := by decide +kernel
theorem dX10_shareOf_13 : decode cX10_shareOf 13 = .ok (.if_icmp .ge 21, 3) := by decide +kernel
theorem dX10_shareOf_16 : decode cX10_shareOf 16 = .ok (.dload_n 2, 1) := by decide +kernel
theorem dX10_shareOf_17 : decode cX10_shareOf 17 = .ok (.aload_n 0, 1) := by decide +kernel
theorem dX10_shareOf_18 : decode cX10_shareOf 18 = .ok (.getfield 10, 3) := by decide +kernel
theorem dX10_shareOf_21 : decode cX10_shareOf 21 = .ok (.iload 4, 2) := by decide +kernel
theorem dX10_shareOf_23 : decode cX10_shareOf 23 = .ok (.invokevirtual 285, 3) := by decide +kernel
theorem dX10_shareOf_26 : decode cX10_shareOf 26 = .ok (.dadd, 1) := by decide +kernel
theorem dX10_shareOf_27 : decode cX10_shareOf 27 = .ok (.dstore_n 2, 1) := by decide +kernel
theorem dX10_shareOf_28 : decode cX10_shareOf 28 = .ok (.iinc 4 1, 3) := by decide +kernel
theorem dX10_shareOf_31 : decode cX10_shareOf 31 = .ok (.goto (-22), 3) := by decide +kernel
theorem dX10_shareOf_34 : decode cX10_shareOf 34 = .ok (.dload_n 2, 1) := by decide +kernel
theorem dX10_shareOf_35 : decode cX10_shareOf 35 = .ok (.dconst 0, 1) := by decide +kernel
theorem dX10_shareOf_36 : decode cX10_shareOf 36 = .ok (.dcmp .l, 1) := by decide +kernel
theorem dX10_shareOf_37 : decode cX10_shareOf 37 = .ok (.ifCond .le 16, 3) := by decide +kernel
theorem dX10_shareOf_40 : decode cX10_shareOf 40 = .ok (.aload_n 0, 1) := by decide +kernel
theorem dX10_shareOf_41 : decode cX10_shareOf 41 = .ok (.getfield 10, 3) := by decide +kernel
theorem dX10_shareOf_44 : decode cX10_shareOf 44 = .ok (.iload_n 1, 1) := by decide +kernel
theorem dX10_shareOf_45 : decode cX10_shareOf 45 = .ok (.invokevirtual 285, 3) := by decide +kernel
theorem dX10_shareOf_48 : decode cX10_shareOf 48 = .ok (.dload_n 2, 1) := by decide +kernel
theorem dX10_shareOf_49 : decode cX10_shareOf 49 = .ok (.ddiv, 1) := by decide +kernel
theorem dX10_shareOf_50 : decode cX10_shareOf 50 = .ok (.goto 4, 3) := by decide +kernel
theorem dX10_shareOf_53 : decode cX10_shareOf 53 = .ok (.dconst 0, 1) := by decide +kernel
theorem dX10_shareOf_54 : decode cX10_shareOf 54 = .ok (.dreturn, 1) := by decide +kernel
theorem dX10_digest_0 : decode cX10_digest 0 = .ok (.ldc2_w 289, 3) := by decide +kernel
theorem dX10_digest_3 : decode cX10_digest 3 = .ok (.lstore_n 1, 1) := by decide +kernel
theorem dX10_digest_4 : decode cX10_digest 4 = .ok (.lload_n 1, 1) := by decide +kernel
theorem dX10_digest_5 : decode cX10_digest 5 = .ok (.aload_n 0, 1) := by decide +kernel
theorem dX10_digest_6 : decode cX10_digest 6 = .ok (.getfield 10, 3) := by decide +kernel
theorem dX10_digest_9 : decode cX10_digest 9 = .ok (.getfield 66, 3) := by decide +kernel
theorem dX10_digest_12 : decode cX10_digest 12 = .ok (.i2l, 1) := by decide +kernel
theorem dX10_digest_13 : decode cX10_digest 13 = .ok (.invokestatic 291, 3) := by decide +kernel
theorem dX10_digest_16 : decode cX10_digest 16 = .ok (.lstore_n 1, 1) := by decide +kernel
theorem dX10_digest_17 : decode cX10_digest 17 = .ok (.lload_n 1, 1) := by decide +kernel
theorem dX10_digest_18 : decode cX10_digest 18 = .ok (.aload_n 0, 1) := by decide +kernel
theorem dX10_digest_19 : decode cX10_digest 19 = .ok (.invokevirtual 294, 3) := by decide +kernel
theorem dX10_digest_22 : decode cX10_digest 22 = .ok (.i2l, 1) := by decide +kernel
theorem dX10_digest_23 : decode cX10_digest 23 = .ok (.invokestatic 291, 3) := by decide +kernel
theorem dX10_digest_26 : decode cX10_digest 26 = .ok (.lstore_n 1, 1) := by decide +kernel
theorem dX10_digest_27 : decode cX10_digest 27 = .ok (.lload_n 1, 1) := by decide +kernel
theorem dX10_digest_28 : decode cX10_digest 28 = .ok (.aload_n 0, 1) := by decide +kernel
theorem dX10_digest_29 : decode cX10_digest 29 = .ok (.getfield 26, 3) := by decide +kernel
theorem dX10_digest_32 : decode cX10_digest 32 = .ok (.getfield 165, 3) := by decide +kernel
theorem dX10_digest_35 : decode cX10_digest 35 = .ok (.i2l, 1) := by decide +kernel
theorem dX10_digest_36 : decode cX10_digest 36 = .ok (.invokestatic 291, 3) := by decide +kernel
theorem dX10_digest_39 : decode cX10_digest 39 = .ok (.lstore_n 1, 1) := by decide +kernel
theorem dX10_digest_40 : decode cX10_digest 40 = .ok (.iconst 0, 1) := by decide +kernel
theorem dX10_digest_41 : decode cX10_digest 41 = .ok (.istore_n 3, 1) := by decide +kernel
theorem dX10_digest_42 : decode cX10_digest 42 = .ok (.iload_n 3, 1) := by decide +kernel
theorem dX10_digest_43 : decode cX10_digest 43 = .ok (.bipush 6, 2) := by decide +kernel
theorem dX10_digest_45 : decode cX10_digest 45 = .ok (.if_icmp .ge 23, 3) := by decide +kernel
theorem dX10_digest_48 : decode cX10_digest 48 = .ok (.aload_n 0, 1) := by decide +kernel
theorem dX10_digest_49 : decode cX10_digest 49 = .ok (.lload_n 1, 1) := by decide +kernel
theorem dX10_digest_50 : decode cX10_digest 50 = .ok (.iload_n 3, 1) := by decide +kernel
theorem dX10_digest_51 : decode cX10_digest 51 = .ok (.invokevirtual 297, 3) := by decide +kernel
theorem dX10_digest_54 : decode cX10_digest 54 = .ok (.lstore_n 1, 1) := by decide +kernel
theorem dX10_digest_55 : decode cX10_digest 55 = .ok (.aload_n 0, 1) := by decide +kernel
theorem dX10_digest_56 : decode cX10_digest 56 = .ok (.lload_n 1, 1) := by decide +kernel
theorem dX10_digest_57 : decode cX10_digest 57 = .ok (.iload_n 3, 1) := by decide +kernel
theorem dX10_digest_58 : decode cX10_digest 58 = .ok (.invokevirtual 300, 3) := by decide +kernel
theorem dX10_digest_61 : decode cX10_digest 61 = .ok (.lstore_n 1, 1) := by decide +kernel
theorem dX10_digest_62 : decode cX10_digest 62 = .ok (.iinc 3 1, 3) := by decide +kernel
theorem dX10_digest_65 : decode cX10_digest 65 = .ok (.goto (-23), 3) := by decide +kernel
theorem dX10_digest_68 : decode cX10_digest 68 = .ok (.iconst 0, 1) := by decide +kernel
theorem dX10_digest_69 : decode cX10_digest 69 = .ok (.istore_n 3, 1) := by decide +kernel
theorem dX10_digest_70 : decode cX10_digest 70 = .ok (.iload_n 3, 1) := by decide +kernel
theorem dX10_digest_71 : decode cX10_digest 71 = .ok (.bipush 6, 2) := by decide +kernel
theorem dX10_digest_73 : decode cX10_digest 73 = .ok (.if_icmp .ge 22, 3) := by decide +kernel
theorem dX10_digest_76 : decode cX10_digest 76 = .ok (.aload_n 0, 1) := by decide +kernel
theorem dX10_digest_77 : decode cX10_digest 77 = .ok (.lload_n 1, 1) := by decide +kernel
theorem dX10_digest_78 : decode cX10_digest 78 = .ok (.iload_n 3, 1) := by decide +kernel
theorem dX10_digest_79 : decode cX10_digest 79 = .ok (.iload_n 3, 1) := by decide +kernel
theorem dX10_digest_80 : decode cX10_digest 80 = .ok (.iconst 1, 1) := by decide +kernel
theorem dX10_digest_81 : decode cX10_digest 81 = .ok (.iadd, 1) := by decide +kernel
theorem dX10_digest_82 : decode cX10_digest 82 = .ok (.bipush 6, 2) := by decide +kernel
theorem dX10_digest_84 : decode cX10_digest 84 = .ok (.irem, 1) := by decide +kernel
theorem dX10_digest_85 : decode cX10_digest 85 = .ok (.invokevirtual 303, 3) := by decide +kernel
theorem dX10_digest_88 : decode cX10_digest 88 = .ok (.lstore_n 1, 1) := by decide +kernel
theorem dX10_digest_89 : decode cX10_digest 89 = .ok (.iinc 3 1, 3) := by decide +kernel
theorem dX10_digest_92 : decode cX10_digest 92 = .ok (.goto (-22), 3) := by decide +kernel
theorem dX10_digest_95 : decode cX10_digest 95 = .ok (.iconst 0, 1) := by decide +kernel
theorem dX10_digest_96 : decode cX10_digest 96 = .ok (.istore_n 3, 1) := by decide +kernel
theorem dX10_digest_97 : decode cX10_digest 97 = .ok (.iload_n 3, 1) := by decide +kernel
theorem dX10_digest_98 : decode cX10_digest 98 = .ok (.bipush 6, 2) := by decide +kernel
theorem dX10_digest_100 : decode cX10_digest 100 = .ok (.if_icmp .ge 22, 3) := by decide +kernel
theorem dX10_digest_103 : decode cX10_digest 103 = .ok (.lload_n 1, 1) := by decide +kernel
theorem dX10_digest_104 : decode cX10_digest 104 = .ok (.aload_n 0, 1) := by decide +kernel
theorem dX10_digest_105 : decode cX10_digest 105 = .ok (.iload_n 3, 1) := by decide +kernel
theorem dX10_digest_106 : decode cX10_digest 106 = .ok (.invokevirtual 307, 3) := by decide +kernel
theorem dX10_digest_109 : decode cX10_digest 109 = .ok (.invokestatic 310, 3) := by decide +kernel
theorem dX10_digest_112 : decode cX10_digest 112 = .ok (.invokestatic 291, 3) := by decide +kernel
theorem dX10_digest_115 : decode cX10_digest 115 = .ok (.lstore_n 1, 1) := by decide +kernel
theorem dX10_digest_116 : decode cX10_digest 116 = .ok (.iinc 3 1, 3) := by decide +kernel
theorem dX10_digest_119 : decode cX10_digest 119 = .ok (.goto (-22), 3) := by decide +kernel
theorem dX10_digest_122 : decode cX10_digest 122 = .ok (.aload_n 0, 1) := by decide +kernel
theorem dX10_digest_123 : decode cX10_digest 123 = .ok (.lload_n 1, 1) := by decide +kernel
theorem dX10_digest_124 : decode cX10_digest 124 = .ok (.invokevirtual 314, 3) := by decide +kernel
theorem dX10_digest_127 : decode cX10_digest 127 = .ok (.lreturn, 1) := by decide +kernel
theorem dX10_mix_0 : decode cX10_mix 0 = .ok (.ldc2_w 318, 3) := by decide +kernel
theorem dX10_mix_3 : decode cX10_mix 3 = .ok (.lload_n 0, 1) := by decide +kernel
theorem dX10_mix_4 : decode cX10_mix 4 = .ok (.lmul, 1) := by decide +kernel
theorem dX10_mix_5 : decode cX10_mix 5 = .ok (.lload_n 2, 1) := by decide +kernel
theorem dX10_mix_6 : decode cX10_mix 6 = .ok (.ladd, 1) := by decide +kernel
theorem dX10_mix_7 : decode cX10_mix 7 = .ok (.lreturn, 1) := by decide +kernel
theorem dX10_mixWhole_0 : decode cX10_mixWhole 0 = .ok (.aload_n 0, 1) := by decide +kernel
theorem dX10_mixWhole_1 : decode cX10_mixWhole 1 = .ok (.iload_n 3, 1) := by decide +kernel
theorem dX10_mixWhole_2 : decode cX10_mixWhole 2 = .ok (.invokevirtual 320, 3) := by decide +kernel
theorem dX10_mixWhole_5 : decode cX10_mixWhole 5 = .ok (.istore 4, 2) := by decide +kernel
theorem dX10_mixWhole_7 : decode cX10_mixWhole 7 = .ok (.lload_n 1, 1) := by decide +kernel
theorem dX10_mixWhole_8 : decode cX10_mixWhole 8 = .ok (.aload_n 0, 1) := by decide +kernel
theorem dX10_mixWhole_9 : decode cX10_mixWhole 9 = .ok (.iload_n 3, 1) := by decide +kernel
theorem dX10_mixWhole_10 : decode cX10_mixWhole 10 = .ok (.invokevirtual 323, 3) := by decide +kernel
theorem dX10_mixWhole_13 : decode cX10_mixWhole 13 = .ok (.i2l, 1) := by decide +kernel
theorem dX10_mixWhole_14 : decode cX10_mixWhole 14 = .ok (.invokestatic 291, 3) := by decide +kernel
theorem dX10_mixWhole_17 : decode cX10_mixWhole 17 = .ok (.lstore 5, 2) := by decide +kernel
theorem dX10_mixWhole_19 : decode cX10_mixWhole 19 = .ok (.lload 5, 2) := by decide +kernel
theorem dX10_mixWhole_21 : decode cX10_mixWhole 21 = .ok (.aload_n 0, 1) := by decide +kernel
theorem dX10_mixWhole_22 : decode cX10_mixWhole 22 = .ok (.iload_n 3, 1) := by decide +kernel
theorem dX10_mixWhole_23 : decode cX10_mixWhole 23 = .ok (.invokevirtual 325, 3) := by decide +kernel
theorem dX10_mixWhole_26 : decode cX10_mixWhole 26 = .ok (.i2l, 1) := by decide +kernel
theorem dX10_mixWhole_27 : decode cX10_mixWhole 27 = .ok (.invokestatic 291, 3) := by decide +kernel
theorem dX10_mixWhole_30 : decode cX10_mixWhole 30 = .ok (.lstore 5, 2) := by decide +kernel
theorem dX10_mixWhole_32 : decode cX10_mixWhole 32 = .ok (.lload 5, 2) := by decide +kernel
theorem dX10_mixWhole_34 : decode cX10_mixWhole 34 = .ok (.aload_n 0, 1) := by decide +kernel
theorem dX10_mixWhole_35 : decode cX10_mixWhole 35 = .ok (.iload_n 3, 1) := by decide +kernel
theorem dX10_mixWhole_36 : decode cX10_mixWhole 36 = .ok (.invokevirtual 327, 3) := by decide +kernel
theorem dX10_mixWhole_39 : decode cX10_mixWhole 39 = .ok (.i2l, 1) := by decide +kernel
theorem dX10_mixWhole_40 : decode cX10_mixWhole 40 = .ok (.invokestatic 291, 3) := by decide +kernel
theorem dX10_mixWhole_43 : decode cX10_mixWhole 43 = .ok (.lstore 5, 2) := by decide +kernel
theorem dX10_mixWhole_45 : decode cX10_mixWhole 45 = .ok (.lload 5, 2) := by decide +kernel
theorem dX10_mixWhole_47 : decode cX10_mixWhole 47 = .ok (.iload 4, 2) := by decide +kernel
theorem dX10_mixWhole_49 : decode cX10_mixWhole 49 = .ok (.i2l, 1) := by decide +kernel
theorem dX10_mixWhole_50 : decode cX10_mixWhole 50 = .ok (.invokestatic 291, 3) := by decide +kernel
theorem dX10_mixWhole_53 : decode cX10_mixWhole 53 = .ok (.lstore 5, 2) := by decide +kernel
theorem dX10_mixWhole_55 : decode cX10_mixWhole 55 = .ok (.iconst 0, 1) := by decide +kernel
theorem dX10_mixWhole_56 : decode cX10_mixWhole 56 = .ok (.istore 7, 2) := by decide +kernel
theorem dX10_mixWhole_58 : decode cX10_mixWhole 58 = .ok (.iload 7, 2) := by decide +kernel
theorem dX10_mixWhole_60 : decode cX10_mixWhole 60 = .ok (.iload 4, 2) := by decide +kernel
theorem dX10_mixWhole_62 : decode cX10_mixWhole 62 = .ok (.if_icmp .ge 39, 3) := by decide +kernel
theorem dX10_mixWhole_65 : decode cX10_mixWhole 65 = .ok (.lload 5, 2) := by decide +kernel
theorem dX10_mixWhole_67 : decode cX10_mixWhole 67 = .ok (.aload_n 0, 1) := by decide +kernel
theorem dX10_mixWhole_68 : decode cX10_mixWhole 68 = .ok (.iload_n 3, 1) := by decide +kernel
theorem dX10_mixWhole_69 : decode cX10_mixWhole 69 = .ok (.iload 7, 2) := by decide +kernel
theorem dX10_mixWhole_71 : decode cX10_mixWhole 71 = .ok (.invokevirtual 330, 3) := by decide +kernel
theorem dX10_mixWhole_74 : decode cX10_mixWhole 74 = .ok (.i2l, 1) := by decide +kernel
theorem dX10_mixWhole_75 : decode cX10_mixWhole 75 = .ok (.invokestatic 291, 3) := by decide +kernel
theorem dX10_mixWhole_78 : decode cX10_mixWhole 78 = .ok (.lstore 5, 2) := by decide +kernel
theorem dX10_mixWhole_80 : decode cX10_mixWhole 80 = .ok (.lload 5, 2) := by decide +kernel
theorem dX10_mixWhole_82 : decode cX10_mixWhole 82 = .ok (.aload_n 0, 1) := by decide +kernel
theorem dX10_mixWhole_83 : decode cX10_mixWhole 83 = .ok (.iload_n 3, 1) := by decide +kernel
theorem dX10_mixWhole_84 : decode cX10_mixWhole 84 = .ok (.iload 7, 2) := by decide +kernel
theorem dX10_mixWhole_86 : decode cX10_mixWhole 86 = .ok (.invokevirtual 333, 3) := by decide +kernel
theorem dX10_mixWhole_89 : decode cX10_mixWhole 89 = .ok (.i2l, 1) := by decide +kernel
theorem dX10_mixWhole_90 : decode cX10_mixWhole 90 = .ok (.invokestatic 291, 3) := by decide +kernel
theorem dX10_mixWhole_93 : decode cX10_mixWhole 93 = .ok (.lstore 5, 2) := by decide +kernel
theorem dX10_mixWhole_95 : decode cX10_mixWhole 95 = .ok (.iinc 7 1, 3) := by decide +kernel
theorem dX10_mixWhole_98 : decode cX10_mixWhole 98 = .ok (.goto (-40), 3) := by decide +kernel
theorem dX10_mixWhole_101 : decode cX10_mixWhole 101 = .ok (.lload 5, 2) := by decide +kernel
theorem dX10_mixWhole_103 : decode cX10_mixWhole 103 = .ok (.aload_n 0, 1) := by decide +kernel
theorem dX10_mixWhole_104 : decode cX10_mixWhole 104 = .ok (.iload_n 3, 1) := by decide +kernel
theorem dX10_mixWhole_105 : decode cX10_mixWhole 105 = .ok (.invokevirtual 336, 3) := by decide +kernel
theorem dX10_mixWhole_108 : decode cX10_mixWhole 108 = .ok (.i2l, 1) := by decide +kernel
theorem dX10_mixWhole_109 : decode cX10_mixWhole 109 = .ok (.invokestatic 291, 3) := by decide +kernel
theorem dX10_mixWhole_112 : decode cX10_mixWhole 112 = .ok (.lstore 5, 2) := by decide +kernel
theorem dX10_mixWhole_114 : decode cX10_mixWhole 114 = .ok (.lload 5, 2) := by decide +kernel
theorem dX10_mixWhole_116 : decode cX10_mixWhole 116 = .ok (.aload_n 0, 1) := by decide +kernel
theorem dX10_mixWhole_117 : decode cX10_mixWhole 117 = .ok (.iload_n 3, 1) := by decide +kernel
theorem dX10_mixWhole_118 : decode cX10_mixWhole 118 = .ok (.invokevirtual 339, 3) := by decide +kernel
theorem dX10_mixWhole_121 : decode cX10_mixWhole 121 = .ok (.i2l, 1) := by decide +kernel
theorem dX10_mixWhole_122 : decode cX10_mixWhole 122 = .ok (.invokestatic 291, 3) := by decide +kernel
theorem dX10_mixWhole_125 : decode cX10_mixWhole 125 = .ok (.lstore 5, 2) := by decide +kernel
theorem dX10_mixWhole_127 : decode cX10_mixWhole 127 = .ok (.lload 5, 2) := by decide +kernel
theorem dX10_mixWhole_129 : decode cX10_mixWhole 129 = .ok (.aload_n 0, 1) := by decide +kernel
theorem dX10_mixWhole_130 : decode cX10_mixWhole 130 = .ok (.iload_n 3, 1) := by decide +kernel
theorem dX10_mixWhole_131 : decode cX10_mixWhole 131 = .ok (.invokevirtual 342, 3) := by decide +kernel
theorem dX10_mixWhole_134 : decode cX10_mixWhole 134 = .ok (.i2l, 1) := by decide +kernel
theorem dX10_mixWhole_135 : decode cX10_mixWhole 135 = .ok (.invokestatic 291, 3) := by decide +kernel
theorem dX10_mixWhole_138 : decode cX10_mixWhole 138 = .ok (.lreturn, 1) := by decide +kernel
theorem dX10_mixBehind_0 : decode cX10_mixBehind 0 = .ok (.lload_n 1, 1) := by decide +kernel
theorem dX10_mixBehind_1 : decode cX10_mixBehind 1 = .ok (.aload_n 0, 1) := by decide +kernel
theorem dX10_mixBehind_2 : decode cX10_mixBehind 2 = .ok (.iload_n 3, 1) := by decide +kernel
theorem dX10_mixBehind_3 : decode cX10_mixBehind 3 = .ok (.invokevirtual 345, 3) := by decide +kernel
theorem dX10_mixBehind_6 : decode cX10_mixBehind 6 = .ok (.i2l, 1) := by decide +kernel
theorem dX10_mixBehind_7 : decode cX10_mixBehind 7 = .ok (.invokestatic 291, 3) := by decide +kernel
theorem dX10_mixBehind_10 : decode cX10_mixBehind 10 = .ok (.lstore 4, 2) := by decide +kernel
theorem dX10_mixBehind_12 : decode cX10_mixBehind 12 = .ok (.lload 4, 2) := by decide +kernel
theorem dX10_mixBehind_14 : decode cX10_mixBehind 14 = .ok (.aload_n 0, 1) := by decide +kernel
theorem dX10_mixBehind_15 : decode cX10_mixBehind 15 = .ok (.iload_n 3, 1) := by decide +kernel
theorem dX10_mixBehind_16 : decode cX10_mixBehind 16 = .ok (.invokevirtual 348, 3) := by decide +kernel
theorem dX10_mixBehind_19 : decode cX10_mixBehind 19 = .ok (.i2l, 1) := by decide +kernel
theorem dX10_mixBehind_20 : decode cX10_mixBehind 20 = .ok (.invokestatic 291, 3) := by decide +kernel
theorem dX10_mixBehind_23 : decode cX10_mixBehind 23 = .ok (.lstore 4, 2) := by decide +kernel
theorem dX10_mixBehind_25 : decode cX10_mixBehind 25 = .ok (.lload 4, 2) := by decide +kernel
theorem dX10_mixBehind_27 : decode cX10_mixBehind 27 = .ok (.aload_n 0, 1) := by decide +kernel
theorem dX10_mixBehind_28 : decode cX10_mixBehind 28 = .ok (.iload_n 3, 1) := by decide +kernel
theorem dX10_mixBehind_29 : decode cX10_mixBehind 29 = .ok (.invokevirtual 351, 3) := by decide +kernel
theorem dX10_mixBehind_32 : decode cX10_mixBehind 32 = .ok (.i2l, 1) := by decide +kernel
theorem dX10_mixBehind_33 : decode cX10_mixBehind 33 = .ok (.invokestatic 291, 3) := by decide +kernel
theorem dX10_mixBehind_36 : decode cX10_mixBehind 36 = .ok (.lstore 4, 2) := by decide +kernel
theorem dX10_mixBehind_38 : decode cX10_mixBehind 38 = .ok (.iconst 0, 1) := by decide +kernel
theorem dX10_mixBehind_39 : decode cX10_mixBehind 39 = .ok (.istore 6, 2) := by decide +kernel
theorem dX10_mixBehind_41 : decode cX10_mixBehind 41 = .ok (.iload 6, 2) := by decide +kernel
theorem dX10_mixBehind_43 : decode cX10_mixBehind 43 = .ok (.bipush 10, 2) := by decide +kernel
theorem dX10_mixBehind_45 : decode cX10_mixBehind 45 = .ok (.if_icmp .ge 24, 3) := by decide +kernel
theorem dX10_mixBehind_48 : decode cX10_mixBehind 48 = .ok (.lload 4, 2) := by decide +kernel
theorem dX10_mixBehind_50 : decode cX10_mixBehind 50 = .ok (.aload_n 0, 1) := by decide +kernel
theorem dX10_mixBehind_51 : decode cX10_mixBehind 51 = .ok (.iload_n 3, 1) := by decide +kernel
theorem dX10_mixBehind_52 : decode cX10_mixBehind 52 = .ok (.iload 6, 2) := by decide +kernel
theorem dX10_mixBehind_54 : decode cX10_mixBehind 54 = .ok (.invokevirtual 354, 3) := by decide +kernel
theorem dX10_mixBehind_57 : decode cX10_mixBehind 57 = .ok (.i2l, 1) := by decide +kernel
theorem dX10_mixBehind_58 : decode cX10_mixBehind 58 = .ok (.invokestatic 291, 3) := by decide +kernel
theorem dX10_mixBehind_61 : decode cX10_mixBehind 61 = .ok (.lstore 4, 2) := by decide +kernel
theorem dX10_mixBehind_63 : decode cX10_mixBehind 63 = .ok (.iinc 6 1, 3) := by decide +kernel
theorem dX10_mixBehind_66 : decode cX10_mixBehind 66 = .ok (.goto (-25), 3) := by decide +kernel
theorem dX10_mixBehind_69 : decode cX10_mixBehind 69 = .ok (.lload 4, 2) := by decide +kernel
theorem dX10_mixBehind_71 : decode cX10_mixBehind 71 = .ok (.aload_n 0, 1) := by decide +kernel
theorem dX10_mixBehind_72 : decode cX10_mixBehind 72 = .ok (.iload_n 3, 1) := by decide +kernel
theorem dX10_mixBehind_73 : decode cX10_mixBehind 73 = .ok (.invokevirtual 357, 3) := by decide +kernel
theorem dX10_mixBehind_76 : decode cX10_mixBehind 76 = .ok (.i2l, 1) := by decide +kernel
theorem dX10_mixBehind_77 : decode cX10_mixBehind 77 = .ok (.invokestatic 291, 3) := by decide +kernel
theorem dX10_mixBehind_80 : decode cX10_mixBehind 80 = .ok (.lstore 4, 2) := by decide +kernel
theorem dX10_mixBehind_82 : decode cX10_mixBehind 82 = .ok (.lload 4, 2) := by decide +kernel
theorem dX10_mixBehind_84 : decode cX10_mixBehind 84 = .ok (.aload_n 0, 1) := by decide +kernel
theorem dX10_mixBehind_85 : decode cX10_mixBehind 85 = .ok (.iload_n 3, 1) := by decide +kernel
theorem dX10_mixBehind_86 : decode cX10_mixBehind 86 = .ok (.bipush 16, 2) := by decide +kernel
theorem dX10_mixBehind_88 : decode cX10_mixBehind 88 = .ok (.invokevirtual 360, 3) := by decide +kernel
theorem dX10_mixBehind_91 : decode cX10_mixBehind 91 = .ok (.invokestatic 291, 3) := by decide +kernel
theorem dX10_mixBehind_94 : decode cX10_mixBehind 94 = .ok (.lstore 4, 2) := by decide +kernel
theorem dX10_mixBehind_96 : decode cX10_mixBehind 96 = .ok (.aload_n 0, 1) := by decide +kernel
theorem dX10_mixBehind_97 : decode cX10_mixBehind 97 = .ok (.iload_n 3, 1) := by decide +kernel
theorem dX10_mixBehind_98 : decode cX10_mixBehind 98 = .ok (.invokevirtual 235, 3) := by decide +kernel
theorem dX10_mixBehind_101 : decode cX10_mixBehind 101 = .ok (.istore 6, 2) := by decide +kernel
theorem dX10_mixBehind_103 : decode cX10_mixBehind 103 = .ok (.lload 4, 2) := by decide +kernel
theorem dX10_mixBehind_105 : decode cX10_mixBehind 105 = .ok (.iload 6, 2) := by decide +kernel
theorem dX10_mixBehind_107 : decode cX10_mixBehind 107 = .ok (.i2l, 1) := by decide +kernel
theorem dX10_mixBehind_108 : decode cX10_mixBehind 108 = .ok (.invokestatic 291, 3) := by decide +kernel
theorem dX10_mixBehind_111 : decode cX10_mixBehind 111 = .ok (.lstore 4, 2) := by decide +kernel
theorem dX10_mixBehind_113 : decode cX10_mixBehind 113 = .ok (.lload 4, 2) := by decide +kernel
theorem dX10_mixBehind_115 : decode cX10_mixBehind 115 = .ok (.aload_n 0, 1) := by decide +kernel
theorem dX10_mixBehind_116 : decode cX10_mixBehind 116 = .ok (.iload_n 3, 1) := by decide +kernel
theorem dX10_mixBehind_117 : decode cX10_mixBehind 117 = .ok (.iload 6, 2) := by decide +kernel
theorem dX10_mixBehind_119 : decode cX10_mixBehind 119 = .ok (.iconst 1, 1) := by decide +kernel
theorem dX10_mixBehind_120 : decode cX10_mixBehind 120 = .ok (.isub, 1) := by decide +kernel
theorem dX10_mixBehind_121 : decode cX10_mixBehind 121 = .ok (.invokevirtual 364, 3) := by decide +kernel
theorem dX10_mixBehind_124 : decode cX10_mixBehind 124 = .ok (.i2l, 1) := by decide +kernel
theorem dX10_mixBehind_125 : decode cX10_mixBehind 125 = .ok (.invokestatic 291, 3) := by decide +kernel
theorem dX10_mixBehind_128 : decode cX10_mixBehind 128 = .ok (.lreturn, 1) := by decide +kernel
theorem dX10_mixPair_0 : decode cX10_mixPair 0 = .ok (.aload_n 0, 1) := by decide +kernel
theorem dX10_mixPair_1 : decode cX10_mixPair 1 = .ok (.iload_n 3, 1) := by decide +kernel
theorem dX10_mixPair_2 : decode cX10_mixPair 2 = .ok (.iload 4, 2) := by decide +kernel
theorem dX10_mixPair_4 : decode cX10_mixPair 4 = .ok (.invokevirtual 249, 3) := by decide +kernel
theorem dX10_mixPair_7 : decode cX10_mixPair 7 = .ok (.lload_n 1, 1) := by decide +kernel
theorem dX10_mixPair_8 : decode cX10_mixPair 8 = .ok (.aload_n 0, 1) := by decide +kernel
theorem dX10_mixPair_9 : decode cX10_mixPair 9 = .ok (.getfield 54, 3) := by decide +kernel
theorem dX10_mixPair_12 : decode cX10_mixPair 12 = .ok (.getfield 252, 3) := by decide +kernel
theorem dX10_mixPair_15 : decode cX10_mixPair 15 = .ok (.i2l, 1) := by decide +kernel
theorem dX10_mixPair_16 : decode cX10_mixPair 16 = .ok (.invokestatic 291, 3) := by decide +kernel
theorem dX10_mixPair_19 : decode cX10_mixPair 19 = .ok (.lstore 5, 2) := by decide +kernel
theorem dX10_mixPair_21 : decode cX10_mixPair 21 = .ok (.lload 5, 2) := by decide +kernel
theorem dX10_mixPair_23 : decode cX10_mixPair 23 = .ok (.aload_n 0, 1) := by decide +kernel
theorem dX10_mixPair_24 : decode cX10_mixPair 24 = .ok (.getfield 54, 3) := by decide +kernel
theorem dX10_mixPair_27 : decode cX10_mixPair 27 = .ok (.getfield 255, 3) := by decide +kernel
theorem dX10_mixPair_30 : decode cX10_mixPair 30 = .ok (.i2l, 1) := by decide +kernel
theorem dX10_mixPair_31 : decode cX10_mixPair 31 = .ok (.invokestatic 291, 3) := by decide +kernel
theorem dX10_mixPair_34 : decode cX10_mixPair 34 = .ok (.lstore 5, 2) := by decide +kernel
theorem dX10_mixPair_36 : decode cX10_mixPair 36 = .ok (.iconst 0, 1) := by decide +kernel
theorem dX10_mixPair_37 : decode cX10_mixPair 37 = .ok (.istore 7, 2) := by decide +kernel
theorem dX10_mixPair_39 : decode cX10_mixPair 39 = .ok (.iload 7, 2) := by decide +kernel
theorem dX10_mixPair_41 : decode cX10_mixPair 41 = .ok (.aload_n 0, 1) := by decide +kernel
theorem dX10_mixPair_42 : decode cX10_mixPair 42 = .ok (.getfield 54, 3) := by decide +kernel
theorem dX10_mixPair_45 : decode cX10_mixPair 45 = .ok (.getfield 258, 3) := by decide +kernel
theorem dX10_mixPair_48 : decode cX10_mixPair 48 = .ok (.if_icmp .ge 26, 3) := by decide +kernel
theorem dX10_mixPair_51 : decode cX10_mixPair 51 = .ok (.lload 5, 2) := by decide +kernel
theorem dX10_mixPair_53 : decode cX10_mixPair 53 = .ok (.aload_n 0, 1) := by decide +kernel
theorem dX10_mixPair_54 : decode cX10_mixPair 54 = .ok (.getfield 54, 3) := by decide +kernel
theorem dX10_mixPair_57 : decode cX10_mixPair 57 = .ok (.iload 7, 2) := by decide +kernel
theorem dX10_mixPair_59 : decode cX10_mixPair 59 = .ok (.invokevirtual 261, 3) := by decide +kernel
theorem dX10_mixPair_62 : decode cX10_mixPair 62 = .ok (.i2l, 1) := by decide +kernel
theorem dX10_mixPair_63 : decode cX10_mixPair 63 = .ok (.invokestatic 291, 3) := by decide +kernel
theorem dX10_mixPair_66 : decode cX10_mixPair 66 = .ok (.lstore 5, 2) := by decide +kernel
theorem dX10_mixPair_68 : decode cX10_mixPair 68 = .ok (.iinc 7 1, 3) := by decide +kernel
theorem dX10_mixPair_71 : decode cX10_mixPair 71 = .ok (.goto (-32), 3) := by decide +kernel
theorem dX10_mixPair_74 : decode cX10_mixPair 74 = .ok (.lload 5, 2) := by decide +kernel
theorem dX10_mixPair_76 : decode cX10_mixPair 76 = .ok (.aload_n 0, 1) := by decide +kernel
theorem dX10_mixPair_77 : decode cX10_mixPair 77 = .ok (.getfield 54, 3) := by decide +kernel
theorem dX10_mixPair_80 : decode cX10_mixPair 80 = .ok (.aload_n 0, 1) := by decide +kernel
theorem dX10_mixPair_81 : decode cX10_mixPair 81 = .ok (.getfield 10, 3) := by decide +kernel
theorem dX10_mixPair_84 : decode cX10_mixPair 84 = .ok (.getfield 66, 3) := by decide +kernel
theorem dX10_mixPair_87 : decode cX10_mixPair 87 = .ok (.invokevirtual 264, 3) := by decide +kernel
theorem dX10_mixPair_90 : decode cX10_mixPair 90 = .ok (.invokestatic 291, 3) := by decide +kernel
theorem dX10_mixPair_93 : decode cX10_mixPair 93 = .ok (.lstore 5, 2) := by decide +kernel
theorem dX10_mixPair_95 : decode cX10_mixPair 95 = .ok (.lload 5, 2) := by decide +kernel
theorem dX10_mixPair_97 : decode cX10_mixPair 97 = .ok (.aload_n 0, 1) := by decide +kernel
theorem dX10_mixPair_98 : decode cX10_mixPair 98 = .ok (.iload_n 3, 1) := by decide +kernel
theorem dX10_mixPair_99 : decode cX10_mixPair 99 = .ok (.iload 4, 2) := by decide +kernel
theorem dX10_mixPair_101 : decode cX10_mixPair 101 = .ok (.invokevirtual 367, 3) := by decide +kernel
theorem dX10_mixPair_104 : decode cX10_mixPair 104 = .ok (.i2l, 1) := by decide +kernel
theorem dX10_mixPair_105 : decode cX10_mixPair 105 = .ok (.invokestatic 291, 3) := by decide +kernel
theorem dX10_mixPair_108 : decode cX10_mixPair 108 = .ok (.lstore 5, 2) := by decide +kernel
theorem dX10_mixPair_110 : decode cX10_mixPair 110 = .ok (.lload 5, 2) := by decide +kernel
theorem dX10_mixPair_112 : decode cX10_mixPair 112 = .ok (.aload_n 0, 1) := by decide +kernel
theorem dX10_mixPair_113 : decode cX10_mixPair 113 = .ok (.iload_n 3, 1) := by decide +kernel
theorem dX10_mixPair_114 : decode cX10_mixPair 114 = .ok (.iload 4, 2) := by decide +kernel
theorem dX10_mixPair_116 : decode cX10_mixPair 116 = .ok (.invokevirtual 370, 3) := by decide +kernel
theorem dX10_mixPair_119 : decode cX10_mixPair 119 = .ok (.i2l, 1) := by decide +kernel
theorem dX10_mixPair_120 : decode cX10_mixPair 120 = .ok (.invokestatic 291, 3) := by decide +kernel
theorem dX10_mixPair_123 : decode cX10_mixPair 123 = .ok (.lstore 5, 2) := by decide +kernel
theorem dX10_mixPair_125 : decode cX10_mixPair 125 = .ok (.lload 5, 2) := by decide +kernel
theorem dX10_mixPair_127 : decode cX10_mixPair 127 = .ok (.aload_n 0, 1) := by decide +kernel
theorem dX10_mixPair_128 : decode cX10_mixPair 128 = .ok (.iload_n 3, 1) := by decide +kernel
theorem dX10_mixPair_129 : decode cX10_mixPair 129 = .ok (.iload 4, 2) := by decide +kernel
theorem dX10_mixPair_131 : decode cX10_mixPair 131 = .ok (.invokevirtual 181, 3) := by decide +kernel
theorem dX10_mixPair_134 : decode cX10_mixPair 134 = .ok (.i2l, 1) := by decide +kernel
theorem dX10_mixPair_135 : decode cX10_mixPair 135 = .ok (.invokestatic 291, 3) := by decide +kernel
theorem dX10_mixPair_138 : decode cX10_mixPair 138 = .ok (.lreturn, 1) := by decide +kernel
theorem dX10_mixTexts_0 : decode cX10_mixTexts 0 = .ok (.lload_n 1, 1) := by decide +kernel
theorem dX10_mixTexts_1 : decode cX10_mixTexts 1 = .ok (.aload_n 0, 1) := by decide +kernel
theorem dX10_mixTexts_2 : decode cX10_mixTexts 2 = .ok (.invokevirtual 373, 3) := by decide +kernel
theorem dX10_mixTexts_5 : decode cX10_mixTexts 5 = .ok (.ifCond .eq 7, 3) := by decide +kernel
theorem dX10_mixTexts_8 : decode cX10_mixTexts 8 = .ok (.lconst 1, 1) := by decide +kernel
theorem dX10_mixTexts_9 : decode cX10_mixTexts 9 = .ok (.goto 4, 3) := by decide +kernel
theorem dX10_mixTexts_12 : decode cX10_mixTexts 12 = .ok (.lconst 0, 1) := by decide +kernel
theorem dX10_mixTexts_13 : decode cX10_mixTexts 13 = .ok (.invokestatic 291, 3) := by decide +kernel
theorem dX10_mixTexts_16 : decode cX10_mixTexts 16 = .ok (.lstore_n 3, 1) := by decide +kernel
theorem dX10_mixTexts_17 : decode cX10_mixTexts 17 = .ok (.aload_n 0, 1) := by decide +kernel
theorem dX10_mixTexts_18 : decode cX10_mixTexts 18 = .ok (.invokevirtual 373, 3) := by decide +kernel
theorem dX10_mixTexts_21 : decode cX10_mixTexts 21 = .ok (.ifCond .eq 29, 3) := by decide +kernel
theorem dX10_mixTexts_24 : decode cX10_mixTexts 24 = .ok (.lload_n 3, 1) := by decide +kernel
theorem dX10_mixTexts_25 : decode cX10_mixTexts 25 = .ok (.aload_n 0, 1) := by decide +kernel
theorem dX10_mixTexts_26 : decode cX10_mixTexts 26 = .ok (.getfield 10, 3) := by decide +kernel
theorem dX10_mixTexts_29 : decode cX10_mixTexts 29 = .ok (.getfield 162, 3) := by decide +kernel
theorem dX10_mixTexts_32 : decode cX10_mixTexts 32 = .ok (.i2l, 1) := by decide +kernel
theorem dX10_mixTexts_33 : decode cX10_mixTexts 33 = .ok (.invokestatic 291, 3) := by decide +kernel
theorem dX10_mixTexts_36 : decode cX10_mixTexts 36 = .ok (.lstore_n 3, 1) := by decide +kernel
theorem dX10_mixTexts_37 : decode cX10_mixTexts 37 = .ok (.lload_n 3, 1) := by decide +kernel
theorem dX10_mixTexts_38 : decode cX10_mixTexts 38 = .ok (.aload_n 0, 1) := by decide +kernel
theorem dX10_mixTexts_39 : decode cX10_mixTexts 39 = .ok (.getfield 10, 3) := by decide +kernel
theorem dX10_mixTexts_42 : decode cX10_mixTexts 42 = .ok (.getfield 156, 3) := by decide +kernel
theorem dX10_mixTexts_45 : decode cX10_mixTexts 45 = .ok (.i2l, 1) := by decide +kernel
theorem dX10_mixTexts_46 : decode cX10_mixTexts 46 = .ok (.invokestatic 291, 3) := by decide +kernel
theorem dX10_mixTexts_49 : decode cX10_mixTexts 49 = .ok (.lstore_n 3, 1) := by decide +kernel
theorem dX10_mixTexts_50 : decode cX10_mixTexts 50 = .ok (.lload_n 3, 1) := by decide +kernel
theorem dX10_mixTexts_51 : decode cX10_mixTexts 51 = .ok (.aload_n 0, 1) := by decide +kernel
theorem dX10_mixTexts_52 : decode cX10_mixTexts 52 = .ok (.getfield 33, 3) := by decide +kernel
theorem dX10_mixTexts_55 : decode cX10_mixTexts 55 = .ok (.getfield 130, 3) := by decide +kernel
theorem dX10_mixTexts_58 : decode cX10_mixTexts 58 = .ok (.i2l, 1) := by decide +kernel
theorem dX10_mixTexts_59 : decode cX10_mixTexts 59 = .ok (.invokestatic 291, 3) := by decide +kernel
theorem dX10_mixTexts_62 : decode cX10_mixTexts 62 = .ok (.lstore_n 3, 1) := by decide +kernel
theorem dX10_mixTexts_63 : decode cX10_mixTexts 63 = .ok (.iconst 0, 1) := by decide +kernel
theorem dX10_mixTexts_64 : decode cX10_mixTexts 64 = .ok (.istore 5, 2) := by decide +kernel
theorem dX10_mixTexts_66 : decode cX10_mixTexts 66 = .ok (.iload 5, 2) := by decide +kernel
theorem dX10_mixTexts_68 : decode cX10_mixTexts 68 = .ok (.aload_n 0, 1) := by decide +kernel
theorem dX10_mixTexts_69 : decode cX10_mixTexts 69 = .ok (.getfield 33, 3) := by decide +kernel
theorem dX10_mixTexts_72 : decode cX10_mixTexts 72 = .ok (.getfield 130, 3) := by decide +kernel
theorem dX10_mixTexts_75 : decode cX10_mixTexts 75 = .ok (.if_icmp .ge 24, 3) := by decide +kernel
theorem dX10_mixTexts_78 : decode cX10_mixTexts 78 = .ok (.lload_n 3, 1) := by decide +kernel
theorem dX10_mixTexts_79 : decode cX10_mixTexts 79 = .ok (.aload_n 0, 1) := by decide +kernel
theorem dX10_mixTexts_80 : decode cX10_mixTexts 80 = .ok (.getfield 33, 3) := by decide +kernel
theorem dX10_mixTexts_83 : decode cX10_mixTexts 83 = .ok (.iload 5, 2) := by decide +kernel
theorem dX10_mixTexts_85 : decode cX10_mixTexts 85 = .ok (.invokevirtual 376, 3) := by decide +kernel
theorem dX10_mixTexts_88 : decode cX10_mixTexts 88 = .ok (.i2l, 1) := by decide +kernel
theorem dX10_mixTexts_89 : decode cX10_mixTexts 89 = .ok (.invokestatic 291, 3) := by decide +kernel
theorem dX10_mixTexts_92 : decode cX10_mixTexts 92 = .ok (.lstore_n 3, 1) := by decide +kernel
theorem dX10_mixTexts_93 : decode cX10_mixTexts 93 = .ok (.iinc 5 1, 3) := by decide +kernel
theorem dX10_mixTexts_96 : decode cX10_mixTexts 96 = .ok (.goto (-30), 3) := by decide +kernel
theorem dX10_mixTexts_99 : decode cX10_mixTexts 99 = .ok (.lload_n 3, 1) := by decide +kernel
theorem dX10_mixTexts_100 : decode cX10_mixTexts 100 = .ok (.lreturn, 1) := by decide +kernel
theorem dX10_bitsOf_0 : decode cX10_bitsOf 0 = .ok (.dload_n 0, 1) := by decide +kernel
theorem dX10_bitsOf_1 : decode cX10_bitsOf 1 = .ok (.dconst 0, 1) := by decide +kernel
theorem dX10_bitsOf_2 : decode cX10_bitsOf 2 = .ok (.dcmp .g, 1) := by decide +kernel
theorem dX10_bitsOf_3 : decode cX10_bitsOf 3 = .ok (.ifCond .gt 5, 3) := by decide +kernel
theorem dX10_bitsOf_6 : decode cX10_bitsOf 6 = .ok (.lconst 0, 1) := by decide +kernel
theorem dX10_bitsOf_7 : decode cX10_bitsOf 7 = .ok (.lreturn, 1) := by decide +kernel
theorem dX10_bitsOf_8 : decode cX10_bitsOf 8 = .ok (.dload_n 0, 1) := by decide +kernel
theorem dX10_bitsOf_9 : decode cX10_bitsOf 9 = .ok (.dstore_n 2, 1) := by decide +kernel
theorem dX10_bitsOf_10 : decode cX10_bitsOf 10 = .ok (.ldc2_w 379, 3) := by decide +kernel
theorem dX10_bitsOf_13 : decode cX10_bitsOf 13 = .ok (.lstore 4, 2) := by decide +kernel
theorem dX10_bitsOf_15 : decode cX10_bitsOf 15 = .ok (.iconst 0, 1) := by decide +kernel
theorem dX10_bitsOf_16 : decode cX10_bitsOf 16 = .ok (.istore 6, 2) := by decide +kernel
theorem dX10_bitsOf_18 : decode cX10_bitsOf 18 = .ok (.dload_n 2, 1) := by decide +kernel
theorem dX10_bitsOf_19 : decode cX10_bitsOf 19 = .ok (.dconst 1, 1) := by decide +kernel
theorem dX10_bitsOf_20 : decode cX10_bitsOf 20 = .ok (.dcmp .g, 1) := by decide +kernel
theorem dX10_bitsOf_21 : decode cX10_bitsOf 21 = .ok (.ifCond .ge 29, 3) := by decide +kernel
theorem dX10_bitsOf_24 : decode cX10_bitsOf 24 = .ok (.iload 6, 2) := by decide +kernel
theorem dX10_bitsOf_26 : decode cX10_bitsOf 26 = .ok (.sipush 1022, 3) := by decide +kernel
theorem dX10_bitsOf_29 : decode cX10_bitsOf 29 = .ok (.if_icmp .ge 21, 3) := by decide +kernel
theorem dX10_bitsOf_32 : decode cX10_bitsOf 32 = .ok (.dload_n 2, 1) := by decide +kernel
theorem dX10_bitsOf_33 : decode cX10_bitsOf 33 = .ok (.ldc2_w 381, 3) := by decide +kernel
theorem dX10_bitsOf_36 : decode cX10_bitsOf 36 = .ok (.dmul, 1) := by decide +kernel
theorem dX10_bitsOf_37 : decode cX10_bitsOf 37 = .ok (.dstore_n 2, 1) := by decide +kernel
theorem dX10_bitsOf_38 : decode cX10_bitsOf 38 = .ok (.lload 4, 2) := by decide +kernel
theorem dX10_bitsOf_40 : decode cX10_bitsOf 40 = .ok (.lconst 1, 1) := by decide +kernel
theorem dX10_bitsOf_41 : decode cX10_bitsOf 41 = .ok (.lsub, 1) := by decide +kernel
theorem dX10_bitsOf_42 : decode cX10_bitsOf 42 = .ok (.lstore 4, 2) := by decide +kernel
theorem dX10_bitsOf_44 : decode cX10_bitsOf 44 = .ok (.iinc 6 1, 3) := by decide +kernel
theorem dX10_bitsOf_47 : decode cX10_bitsOf 47 = .ok (.goto (-29), 3) := by decide +kernel
theorem dX10_bitsOf_50 : decode cX10_bitsOf 50 = .ok (.dload_n 2, 1) := by decide +kernel
theorem dX10_bitsOf_51 : decode cX10_bitsOf 51 = .ok (.dconst 1, 1) := by decide +kernel
theorem dX10_bitsOf_52 : decode cX10_bitsOf 52 = .ok (.dsub, 1) := by decide +kernel
theorem dX10_bitsOf_53 : decode cX10_bitsOf 53 = .ok (.ldc2_w 383, 3) := by decide +kernel
theorem dX10_bitsOf_56 : decode cX10_bitsOf 56 = .ok (.dmul, 1) := by decide +kernel
theorem dX10_bitsOf_57 : decode cX10_bitsOf 57 = .ok (.d2l, 1) := by decide +kernel
theorem dX10_bitsOf_58 : decode cX10_bitsOf 58 = .ok (.lstore 6, 2) := by decide +kernel
theorem dX10_bitsOf_60 : decode cX10_bitsOf 60 = .ok (.lload 4, 2) := by decide +kernel
theorem dX10_bitsOf_62 : decode cX10_bitsOf 62 = .ok (.bipush 52, 2) := by decide +kernel
theorem dX10_bitsOf_64 : decode cX10_bitsOf 64 = .ok (.lshl, 1) := by decide +kernel
theorem dX10_bitsOf_65 : decode cX10_bitsOf 65 = .ok (.lload 6, 2) := by decide +kernel
theorem dX10_bitsOf_67 : decode cX10_bitsOf 67 = .ok (.ladd, 1) := by decide +kernel
theorem dX10_bitsOf_68 : decode cX10_bitsOf 68 = .ok (.lreturn, 1) := by decide +kernel
theorem dX10_requireAccount_0 : decode cX10_requireAccount 0 = .ok (.iload_n 0, 1) := by decide +kernel
theorem dX10_requireAccount_1 : decode cX10_requireAccount 1 = .ok (.ifCond .lt 9, 3) := by decide +kernel
theorem dX10_requireAccount_4 : decode cX10_requireAccount 4 = .ok (.iload_n 0, 1) := by decide +kernel
theorem dX10_requireAccount_5 : decode cX10_requireAccount 5 = .ok (.bipush 6, 2) := by decide +kernel
theorem dX10_requireAccount_7 : decode cX10_requireAccount 7 = .ok (.if_icmp .lt 14, 3) := by decide +kernel
theorem dX10_requireAccount_10 : decode cX10_requireAccount 10 = .ok (.new 238, 3) := by decide +kernel
theorem dX10_requireAccount_13 : decode cX10_requireAccount 13 = .ok (.dup, 1) := by decide +kernel
theorem dX10_requireAccount_14 : decode cX10_requireAccount 14 = .ok (.ldc_w 385, 3) := by decide +kernel
theorem dX10_requireAccount_17 : decode cX10_requireAccount 17 = .ok (.invokespecial 242, 3) := by decide +kernel
theorem dX10_requireAccount_20 : decode cX10_requireAccount 20 = .ok (.athrow, 1) := by decide +kernel
theorem dX10_requireAccount_21 : decode cX10_requireAccount 21 = .ok (.return_, 1) := by decide +kernel
theorem dX10_requireAccounts_0 : decode cX10_requireAccounts 0 = .ok (.iload_n 0, 1) := by decide +kernel
theorem dX10_requireAccounts_1 : decode cX10_requireAccounts 1 = .ok (.invokestatic 70, 3) := by decide +kernel
theorem dX10_requireAccounts_4 : decode cX10_requireAccounts 4 = .ok (.iload_n 1, 1) := by decide +kernel
theorem dX10_requireAccounts_5 : decode cX10_requireAccounts 5 = .ok (.invokestatic 70, 3) := by decide +kernel
theorem dX10_requireAccounts_8 : decode cX10_requireAccounts 8 = .ok (.return_, 1) := by decide +kernel
theorem dX10_requireBase_0 : decode cX10_requireBase 0 = .ok (.iload_n 0, 1) := by decide +kernel
theorem dX10_requireBase_1 : decode cX10_requireBase 1 = .ok (.iconst 2, 1) := by decide +kernel
theorem dX10_requireBase_2 : decode cX10_requireBase 2 = .ok (.if_icmp .lt 9, 3) := by decide +kernel
theorem dX10_requireBase_5 : decode cX10_requireBase 5 = .ok (.iload_n 0, 1) := by decide +kernel
theorem dX10_requireBase_6 : decode cX10_requireBase 6 = .ok (.bipush 16, 2) := by decide +kernel
theorem dX10_requireBase_8 : decode cX10_requireBase 8 = .ok (.if_icmp .le 14, 3) := by decide +kernel
theorem dX10_requireBase_11 : decode cX10_requireBase 11 = .ok (.new 74, 3) := by decide +kernel
theorem dX10_requireBase_14 : decode cX10_requireBase 14 = .ok (.dup, 1) := by decide +kernel
theorem dX10_requireBase_15 : decode cX10_requireBase 15 = .ok (.ldc_w 387, 3) := by decide +kernel
theorem dX10_requireBase_18 : decode cX10_requireBase 18 = .ok (.invokespecial 78, 3) := by decide +kernel
theorem dX10_requireBase_21 : decode cX10_requireBase 21 = .ok (.athrow, 1) := by decide +kernel
theorem dX10_requireBase_22 : decode cX10_requireBase 22 = .ok (.return_, 1) := by decide +kernel
theorem dX10_requireColumn_0 : decode cX10_requireColumn 0 = .ok (.iload_n 2, 1) := by decide +kernel
theorem dX10_requireColumn_1 : decode cX10_requireColumn 1 = .ok (.ifCond .lt 12, 3) := by decide +kernel
theorem dX10_requireColumn_4 : decode cX10_requireColumn 4 = .ok (.iload_n 2, 1) := by decide +kernel
theorem dX10_requireColumn_5 : decode cX10_requireColumn 5 = .ok (.aload_n 0, 1) := by decide +kernel
theorem dX10_requireColumn_6 : decode cX10_requireColumn 6 = .ok (.iload_n 1, 1) := by decide +kernel
theorem dX10_requireColumn_7 : decode cX10_requireColumn 7 = .ok (.invokevirtual 320, 3) := by decide +kernel
theorem dX10_requireColumn_10 : decode cX10_requireColumn 10 = .ok (.if_icmp .lt 14, 3) := by decide +kernel
theorem dX10_requireColumn_13 : decode cX10_requireColumn 13 = .ok (.new 238, 3) := by decide +kernel
theorem dX10_requireColumn_16 : decode cX10_requireColumn 16 = .ok (.dup, 1) := by decide +kernel
theorem dX10_requireColumn_17 : decode cX10_requireColumn 17 = .ok (.ldc_w 259, 3) := by decide +kernel
theorem dX10_requireColumn_20 : decode cX10_requireColumn 20 = .ok (.invokespecial 242, 3) := by decide +kernel
theorem dX10_requireColumn_23 : decode cX10_requireColumn 23 = .ok (.athrow, 1) := by decide +kernel
theorem dX10_requireColumn_24 : decode cX10_requireColumn 24 = .ok (.return_, 1) := by decide +kernel
theorem dX10_requirePossible_0 : decode cX10_requirePossible 0 = .ok (.aload_n 0, 1) := by decide +kernel
theorem dX10_requirePossible_1 : decode cX10_requirePossible 1 = .ok (.getfield 40, 3) := by decide +kernel
theorem dX10_requirePossible_4 : decode cX10_requirePossible 4 = .ok (.invokevirtual 389, 3) := by decide +kernel
theorem dX10_requirePossible_7 : decode cX10_requirePossible 7 = .ok (.ifCond .eq 14, 3) := by decide +kernel
theorem dX10_requirePossible_10 : decode cX10_requirePossible 10 = .ok (.new 133, 3) := by decide +kernel
theorem dX10_requirePossible_13 : decode cX10_requirePossible 13 = .ok (.dup, 1) := by decide +kernel
theorem dX10_requirePossible_14 : decode cX10_requirePossible 14 = .ok (.ldc_w 392, 3) := by decide +kernel
theorem dX10_requirePossible_17 : decode cX10_requirePossible 17 = .ok (.invokespecial 137, 3) := by decide +kernel
theorem dX10_requirePossible_20 : decode cX10_requirePossible 20 = .ok (.athrow, 1) := by decide +kernel
theorem dX10_requirePossible_21 : decode cX10_requirePossible 21 = .ok (.return_, 1) := by decide +kernel
theorem dX10_requireStop_0 : decode cX10_requireStop 0 = .ok (.aload_n 0, 1) := by decide +kernel
theorem dX10_requireStop_1 : decode cX10_requireStop 1 = .ok (.getfield 10, 3) := by decide +kernel
theorem dX10_requireStop_4 : decode cX10_requireStop 4 = .ok (.getfield 156, 3) := by decide +kernel
theorem dX10_requireStop_7 : decode cX10_requireStop 7 = .ok (.ifCond .ne 14, 3) := by decide +kernel
theorem dX10_requireStop_10 : decode cX10_requireStop 10 = .ok (.new 133, 3) := by decide +kernel
theorem dX10_requireStop_13 : decode cX10_requireStop 13 = .ok (.dup, 1) := by decide +kernel
theorem dX10_requireStop_14 : decode cX10_requireStop 14 = .ok (.ldc_w 394, 3) := by decide +kernel
theorem dX10_requireStop_17 : decode cX10_requireStop 17 = .ok (.invokespecial 137, 3) := by decide +kernel
theorem dX10_requireStop_20 : decode cX10_requireStop 20 = .ok (.athrow, 1) := by decide +kernel
theorem dX10_requireStop_21 : decode cX10_requireStop 21 = .ok (.return_, 1) := by decide +kernel
theorem dX10_saveAndStore_0 : decode cX10_saveAndStore 0 = .ok (.aload_n 0, 1) := by decide +kernel
theorem dX10_saveAndStore_1 : decode cX10_saveAndStore 1 = .ok (.getfield 26, 3) := by decide +kernel
theorem dX10_saveAndStore_4 : decode cX10_saveAndStore 4 = .ok (.aload_n 0, 1) := by decide +kernel
theorem dX10_saveAndStore_5 : decode cX10_saveAndStore 5 = .ok (.getfield 10, 3) := by decide +kernel
theorem dX10_saveAndStore_8 : decode cX10_saveAndStore 8 = .ok (.invokevirtual 62, 3) := by decide +kernel
theorem dX10_saveAndStore_11 : decode cX10_saveAndStore 11 = .ok (.aload_n 0, 1) := by decide +kernel
theorem dX10_saveAndStore_12 : decode cX10_saveAndStore 12 = .ok (.getfield 10, 3) := by decide +kernel
theorem dX10_saveAndStore_15 : decode cX10_saveAndStore 15 = .ok (.iload_n 1, 1) := by decide +kernel
theorem dX10_saveAndStore_16 : decode cX10_saveAndStore 16 = .ok (.aload_n 0, 1) := by decide +kernel
theorem dX10_saveAndStore_17 : decode cX10_saveAndStore 17 = .ok (.getfield 40, 3) := by decide +kernel
theorem dX10_saveAndStore_20 : decode cX10_saveAndStore 20 = .ok (.invokevirtual 124, 3) := by decide +kernel
theorem dX10_saveAndStore_23 : decode cX10_saveAndStore 23 = .ok (.return_, 1) := by decide +kernel
theorem dX10_formSum_0 : decode cX10_formSum 0 = .ok (.aload_n 0, 1) := by decide +kernel
theorem dX10_formSum_1 : decode cX10_formSum 1 = .ok (.getfield 10, 3) := by decide +kernel
theorem dX10_formSum_4 : decode cX10_formSum 4 = .ok (.iload_n 1, 1) := by decide +kernel
theorem dX10_formSum_5 : decode cX10_formSum 5 = .ok (.invokevirtual 90, 3) := by decide +kernel
theorem dX10_formSum_8 : decode cX10_formSum 8 = .ok (.i2l, 1) := by decide +kernel
theorem dX10_formSum_9 : decode cX10_formSum 9 = .ok (.lstore_n 3, 1) := by decide +kernel
theorem dX10_formSum_10 : decode cX10_formSum 10 = .ok (.aload_n 0, 1) := by decide +kernel
theorem dX10_formSum_11 : decode cX10_formSum 11 = .ok (.getfield 10, 3) := by decide +kernel
theorem dX10_formSum_14 : decode cX10_formSum 14 = .ok (.iload_n 2, 1) := by decide +kernel
theorem dX10_formSum_15 : decode cX10_formSum 15 = .ok (.invokevirtual 90, 3) := by decide +kernel
theorem dX10_formSum_18 : decode cX10_formSum 18 = .ok (.i2l, 1) := by decide +kernel
theorem dX10_formSum_19 : decode cX10_formSum 19 = .ok (.lstore 5, 2) := by decide +kernel
theorem dX10_formSum_21 : decode cX10_formSum 21 = .ok (.aload_n 0, 1) := by decide +kernel
theorem dX10_formSum_22 : decode cX10_formSum 22 = .ok (.getfield 40, 3) := by decide +kernel
theorem dX10_formSum_25 : decode cX10_formSum 25 = .ok (.aload_n 0, 1) := by decide +kernel
theorem dX10_formSum_26 : decode cX10_formSum 26 = .ok (.getfield 10, 3) := by decide +kernel
theorem dX10_formSum_29 : decode cX10_formSum 29 = .ok (.iload_n 1, 1) := by decide +kernel
theorem dX10_formSum_30 : decode cX10_formSum 30 = .ok (.invokevirtual 104, 3) := by decide +kernel
theorem dX10_formSum_33 : decode cX10_formSum 33 = .ok (.i2l, 1) := by decide +kernel
theorem dX10_formSum_34 : decode cX10_formSum 34 = .ok (.lload 5, 2) := by decide +kernel
theorem dX10_formSum_36 : decode cX10_formSum 36 = .ok (.lmul, 1) := by decide +kernel
theorem dX10_formSum_37 : decode cX10_formSum 37 = .ok (.aload_n 0, 1) := by decide +kernel
theorem dX10_formSum_38 : decode cX10_formSum 38 = .ok (.getfield 10, 3) := by decide +kernel
theorem dX10_formSum_41 : decode cX10_formSum 41 = .ok (.iload_n 2, 1) := by decide +kernel
theorem dX10_formSum_42 : decode cX10_formSum 42 = .ok (.invokevirtual 104, 3) := by decide +kernel
theorem dX10_formSum_45 : decode cX10_formSum 45 = .ok (.i2l, 1) := by decide +kernel
theorem dX10_formSum_46 : decode cX10_formSum 46 = .ok (.lload_n 3, 1) := by decide +kernel
theorem dX10_formSum_47 : decode cX10_formSum 47 = .ok (.lmul, 1) := by decide +kernel
theorem dX10_formSum_48 : decode cX10_formSum 48 = .ok (.ladd, 1) := by decide +kernel
theorem dX10_formSum_49 : decode cX10_formSum 49 = .ok (.lload_n 3, 1) := by decide +kernel
theorem dX10_formSum_50 : decode cX10_formSum 50 = .ok (.lload 5, 2) := by decide +kernel
theorem dX10_formSum_52 : decode cX10_formSum 52 = .ok (.lmul, 1) := by decide +kernel
theorem dX10_formSum_53 : decode cX10_formSum 53 = .ok (.invokevirtual 83, 3) := by decide +kernel
theorem dX10_formSum_56 : decode cX10_formSum 56 = .ok (.return_, 1) := by decide +kernel
theorem dX10_formDifference_0 : decode cX10_formDifference 0 = .ok (.aload_n 0, 1) := by decide +kernel
theorem dX10_formDifference_1 : decode cX10_formDifference 1 = .ok (.getfield 10, 3) := by decide +kernel
theorem dX10_formDifference_4 : decode cX10_formDifference 4 = .ok (.iload_n 1, 1) := by decide +kernel
theorem dX10_formDifference_5 : decode cX10_formDifference 5 = .ok (.invokevirtual 90, 3) := by decide +kernel
theorem dX10_formDifference_8 : decode cX10_formDifference 8 = .ok (.i2l, 1) := by decide +kernel
theorem dX10_formDifference_9 : decode cX10_formDifference 9 = .ok (.lstore_n 3, 1) := by decide +kernel
theorem dX10_formDifference_10 : decode cX10_formDifference 10 = .ok (.aload_n 0, 1) := by decide +kernel
theorem dX10_formDifference_11 : decode cX10_formDifference 11 = .ok (.getfield 10, 3) := by decide +kernel
theorem dX10_formDifference_14 : decode cX10_formDifference 14 = .ok (.iload_n 2, 1) := by decide +kernel
theorem dX10_formDifference_15 : decode cX10_formDifference 15 = .ok (.invokevirtual 90, 3) := by decide +kernel
theorem dX10_formDifference_18 : decode cX10_formDifference 18 = .ok (.i2l, 1) := by decide +kernel
theorem dX10_formDifference_19 : decode cX10_formDifference 19 = .ok (.lstore 5, 2) := by decide +kernel
theorem dX10_formDifference_21 : decode cX10_formDifference 21 = .ok (.aload_n 0, 1) := by decide +kernel
theorem dX10_formDifference_22 : decode cX10_formDifference 22 = .ok (.getfield 40, 3) := by decide +kernel
theorem dX10_formDifference_25 : decode cX10_formDifference 25 = .ok (.aload_n 0, 1) := by decide +kernel
theorem dX10_formDifference_26 : decode cX10_formDifference 26 = .ok (.getfield 10, 3) := by decide +kernel
theorem dX10_formDifference_29 : decode cX10_formDifference 29 = .ok (.iload_n 1, 1) := by decide +kernel
theorem dX10_formDifference_30 : decode cX10_formDifference 30 = .ok (.invokevirtual 104, 3) := by decide +kernel
theorem dX10_formDifference_33 : decode cX10_formDifference 33 = .ok (.i2l, 1) := by decide +kernel
theorem dX10_formDifference_34 : decode cX10_formDifference 34 = .ok (.lload 5, 2) := by decide +kernel
theorem dX10_formDifference_36 : decode cX10_formDifference 36 = .ok (.lmul, 1) := by decide +kernel
theorem dX10_formDifference_37 : decode cX10_formDifference 37 = .ok (.aload_n 0, 1) := by decide +kernel
theorem dX10_formDifference_38 : decode cX10_formDifference 38 = .ok (.getfield 10, 3) := by decide +kernel
theorem dX10_formDifference_41 : decode cX10_formDifference 41 = .ok (.iload_n 2, 1) := by decide +kernel
theorem dX10_formDifference_42 : decode cX10_formDifference 42 = .ok (.invokevirtual 104, 3) := by decide +kernel
theorem dX10_formDifference_45 : decode cX10_formDifference 45 = .ok (.i2l, 1) := by decide +kernel
theorem dX10_formDifference_46 : decode cX10_formDifference 46 = .ok (.lload_n 3, 1) := by decide +kernel
theorem dX10_formDifference_47 : decode cX10_formDifference 47 = .ok (.lmul, 1) := by decide +kernel
theorem dX10_formDifference_48 : decode cX10_formDifference 48 = .ok (.lsub, 1) := by decide +kernel
theorem dX10_formDifference_49 : decode cX10_formDifference 49 = .ok (.lload_n 3, 1) := by decide +kernel
theorem dX10_formDifference_50 : decode cX10_formDifference 50 = .ok (.lload 5, 2) := by decide +kernel
theorem dX10_formDifference_52 : decode cX10_formDifference 52 = .ok (.lmul, 1) := by decide +kernel
theorem dX10_formDifference_53 : decode cX10_formDifference 53 = .ok (.invokevirtual 83, 3) := by decide +kernel
theorem dX10_formDifference_56 : decode cX10_formDifference 56 = .ok (.return_, 1) := by decide +kernel
theorem dX10_formShift_0 : decode cX10_formShift 0 = .ok (.aload_n 0, 1) := by decide +kernel
theorem dX10_formShift_1 : decode cX10_formShift 1 = .ok (.getfield 10, 3) := by decide +kernel
theorem dX10_formShift_4 : decode cX10_formShift 4 = .ok (.getfield 66, 3) := by decide +kernel
theorem dX10_formShift_7 : decode cX10_formShift 7 = .ok (.i2l, 1) := by decide +kernel
theorem dX10_formShift_8 : decode cX10_formShift 8 = .ok (.iload_n 2, 1) := by decide +kernel
theorem dX10_formShift_9 : decode cX10_formShift 9 = .ok (.invokestatic 396, 3) := by decide +kernel
theorem dX10_formShift_12 : decode cX10_formShift 12 = .ok (.invokestatic 401, 3) := by decide +kernel
theorem dX10_formShift_15 : decode cX10_formShift 15 = .ok (.lstore_n 3, 1) := by decide +kernel
theorem dX10_formShift_16 : decode cX10_formShift 16 = .ok (.iload_n 2, 1) := by decide +kernel
theorem dX10_formShift_17 : decode cX10_formShift 17 = .ok (.ifCond .ge 33, 3) := by decide +kernel
theorem dX10_formShift_20 : decode cX10_formShift 20 = .ok (.aload_n 0, 1) := by decide +kernel
theorem dX10_formShift_21 : decode cX10_formShift 21 = .ok (.getfield 40, 3) := by decide +kernel
theorem dX10_formShift_24 : decode cX10_formShift 24 = .ok (.aload_n 0, 1) := by decide +kernel
theorem dX10_formShift_25 : decode cX10_formShift 25 = .ok (.getfield 10, 3) := by decide +kernel
theorem dX10_formShift_28 : decode cX10_formShift 28 = .ok (.iload_n 1, 1) := by decide +kernel
theorem dX10_formShift_29 : decode cX10_formShift 29 = .ok (.invokevirtual 104, 3) := by decide +kernel
theorem dX10_formShift_32 : decode cX10_formShift 32 = .ok (.i2l, 1) := by decide +kernel
theorem dX10_formShift_33 : decode cX10_formShift 33 = .ok (.aload_n 0, 1) := by decide +kernel
theorem dX10_formShift_34 : decode cX10_formShift 34 = .ok (.getfield 10, 3) := by decide +kernel
theorem dX10_formShift_37 : decode cX10_formShift 37 = .ok (.iload_n 1, 1) := by decide +kernel
theorem dX10_formShift_38 : decode cX10_formShift 38 = .ok (.invokevirtual 90, 3) := by decide +kernel
theorem dX10_formShift_41 : decode cX10_formShift 41 = .ok (.i2l, 1) := by decide +kernel
theorem dX10_formShift_42 : decode cX10_formShift 42 = .ok (.lload_n 3, 1) := by decide +kernel
theorem dX10_formShift_43 : decode cX10_formShift 43 = .ok (.lmul, 1) := by decide +kernel
theorem dX10_formShift_44 : decode cX10_formShift 44 = .ok (.invokevirtual 83, 3) := by decide +kernel
theorem dX10_formShift_47 : decode cX10_formShift 47 = .ok (.goto 30, 3) := by decide +kernel
theorem dX10_formShift_50 : decode cX10_formShift 50 = .ok (.aload_n 0, 1) := by decide +kernel
theorem dX10_formShift_51 : decode cX10_formShift 51 = .ok (.getfield 40, 3) := by decide +kernel
theorem dX10_formShift_54 : decode cX10_formShift 54 = .ok (.aload_n 0, 1) := by decide +kernel
theorem dX10_formShift_55 : decode cX10_formShift 55 = .ok (.getfield 10, 3) := by decide +kernel
theorem dX10_formShift_58 : decode cX10_formShift 58 = .ok (.iload_n 1, 1) := by decide +kernel
theorem dX10_formShift_59 : decode cX10_formShift 59 = .ok (.invokevirtual 104, 3) := by decide +kernel
theorem dX10_formShift_62 : decode cX10_formShift 62 = .ok (.i2l, 1) := by decide +kernel
theorem dX10_formShift_63 : decode cX10_formShift 63 = .ok (.lload_n 3, 1) := by decide +kernel
theorem dX10_formShift_64 : decode cX10_formShift 64 = .ok (.lmul, 1) := by decide +kernel
theorem dX10_formShift_65 : decode cX10_formShift 65 = .ok (.aload_n 0, 1) := by decide +kernel
theorem dX10_formShift_66 : decode cX10_formShift 66 = .ok (.getfield 10, 3) := by decide +kernel
theorem dX10_formShift_69 : decode cX10_formShift 69 = .ok (.iload_n 1, 1) := by decide +kernel
theorem dX10_formShift_70 : decode cX10_formShift 70 = .ok (.invokevirtual 90, 3) := by decide +kernel
theorem dX10_formShift_73 : decode cX10_formShift 73 = .ok (.i2l, 1) := by decide +kernel
theorem dX10_formShift_74 : decode cX10_formShift 74 = .ok (.invokevirtual 83, 3) := by decide +kernel
theorem dX10_formShift_77 : decode cX10_formShift 77 = .ok (.return_, 1) := by decide +kernel
theorem dX10_formWithCoins_0 : decode cX10_formWithCoins 0 = .ok (.aload_n 0, 1) := by decide +kernel
theorem dX10_formWithCoins_1 : decode cX10_formWithCoins 1 = .ok (.getfield 10, 3) := by decide +kernel
theorem dX10_formWithCoins_4 : decode cX10_formWithCoins 4 = .ok (.iload_n 1, 1) := by decide +kernel
theorem dX10_formWithCoins_5 : decode cX10_formWithCoins 5 = .ok (.invokevirtual 90, 3) := by decide +kernel
theorem dX10_formWithCoins_8 : decode cX10_formWithCoins 8 = .ok (.i2l, 1) := by decide +kernel
theorem dX10_formWithCoins_9 : decode cX10_formWithCoins 9 = .ok (.lstore 4, 2) := by decide +kernel
theorem dX10_formWithCoins_11 : decode cX10_formWithCoins 11 = .ok (.aload_n 0, 1) := by decide +kernel
theorem dX10_formWithCoins_12 : decode cX10_formWithCoins 12 = .ok (.getfield 40, 3) := by decide +kernel
theorem dX10_formWithCoins_15 : decode cX10_formWithCoins 15 = .ok (.aload_n 0, 1) := by decide +kernel
theorem dX10_formWithCoins_16 : decode cX10_formWithCoins 16 = .ok (.getfield 10, 3) := by decide +kernel
theorem dX10_formWithCoins_19 : decode cX10_formWithCoins 19 = .ok (.iload_n 1, 1) := by decide +kernel
theorem dX10_formWithCoins_20 : decode cX10_formWithCoins 20 = .ok (.invokevirtual 104, 3) := by decide +kernel
theorem dX10_formWithCoins_23 : decode cX10_formWithCoins 23 = .ok (.i2l, 1) := by decide +kernel
theorem dX10_formWithCoins_24 : decode cX10_formWithCoins 24 = .ok (.lload_n 2, 1) := by decide +kernel
theorem dX10_formWithCoins_25 : decode cX10_formWithCoins 25 = .ok (.lload 4, 2) := by decide +kernel
theorem dX10_formWithCoins_27 : decode cX10_formWithCoins 27 = .ok (.lmul, 1) := by decide +kernel
theorem dX10_formWithCoins_28 : decode cX10_formWithCoins 28 = .ok (.ladd, 1) := by decide +kernel
theorem dX10_formWithCoins_29 : decode cX10_formWithCoins 29 = .ok (.lload 4, 2) := by decide +kernel
theorem dX10_formWithCoins_31 : decode cX10_formWithCoins 31 = .ok (.invokevirtual 83, 3) := by decide +kernel
theorem dX10_formWithCoins_34 : decode cX10_formWithCoins 34 = .ok (.return_, 1) := by decide +kernel
theorem dX10_formColumns_0 : decode cX10_formColumns 0 = .ok (.aload_n 0, 1) := by decide +kernel
theorem dX10_formColumns_1 : decode cX10_formColumns 1 = .ok (.getfield 54, 3) := by decide +kernel
theorem dX10_formColumns_4 : decode cX10_formColumns 4 = .ok (.aload_n 0, 1) := by decide +kernel
theorem dX10_formColumns_5 : decode cX10_formColumns 5 = .ok (.getfield 10, 3) := by decide +kernel
theorem dX10_formColumns_8 : decode cX10_formColumns 8 = .ok (.iload_n 1, 1) := by decide +kernel
theorem dX10_formColumns_9 : decode cX10_formColumns 9 = .ok (.invokevirtual 178, 3) := by decide +kernel
theorem dX10_formColumns_12 : decode cX10_formColumns 12 = .ok (.aload_n 0, 1) := by decide +kernel
theorem dX10_formColumns_13 : decode cX10_formColumns 13 = .ok (.getfield 10, 3) := by decide +kernel
theorem dX10_formColumns_16 : decode cX10_formColumns 16 = .ok (.iload_n 2, 1) := by decide +kernel
theorem dX10_formColumns_17 : decode cX10_formColumns 17 = .ok (.invokevirtual 178, 3) := by decide +kernel
theorem dX10_formColumns_20 : decode cX10_formColumns 20 = .ok (.aload_n 0, 1) := by decide +kernel
theorem dX10_formColumns_21 : decode cX10_formColumns 21 = .ok (.getfield 10, 3) := by decide +kernel
theorem dX10_formColumns_24 : decode cX10_formColumns 24 = .ok (.getfield 66, 3) := by decide +kernel
theorem dX10_formColumns_27 : decode cX10_formColumns 27 = .ok (.invokevirtual 404, 3) := by decide +kernel
theorem dX10_formColumns_30 : decode cX10_formColumns 30 = .ok (.return_, 1) := by decide +kernel
theorem dX10_order_0 : decode cX10_order 0 = .ok (.aload_n 0, 1) := by decide +kernel
theorem dX10_order_1 : decode cX10_order 1 = .ok (.getfield 10, 3) := by decide +kernel
theorem dX10_order_4 : decode cX10_order 4 = .ok (.iload_n 1, 1) := by decide +kernel
theorem dX10_order_5 : decode cX10_order 5 = .ok (.invokevirtual 104, 3) := by decide +kernel
theorem dX10_order_8 : decode cX10_order 8 = .ok (.i2l, 1) := by decide +kernel
theorem dX10_order_9 : decode cX10_order 9 = .ok (.aload_n 0, 1) := by decide +kernel
theorem dX10_order_10 : decode cX10_order 10 = .ok (.getfield 10, 3) := by decide +kernel
theorem dX10_order_13 : decode cX10_order 13 = .ok (.iload_n 2, 1) := by decide +kernel
theorem dX10_order_14 : decode cX10_order 14 = .ok (.invokevirtual 90, 3) := by decide +kernel
theorem dX10_order_17 : decode cX10_order 17 = .ok (.i2l, 1) := by decide +kernel
theorem dX10_order_18 : decode cX10_order 18 = .ok (.lmul, 1) := by decide +kernel
theorem dX10_order_19 : decode cX10_order 19 = .ok (.lstore_n 3, 1) := by decide +kernel
theorem dX10_order_20 : decode cX10_order 20 = .ok (.aload_n 0, 1) := by decide +kernel
theorem dX10_order_21 : decode cX10_order 21 = .ok (.getfield 10, 3) := by decide +kernel
theorem dX10_order_24 : decode cX10_order 24 = .ok (.iload_n 2, 1) := by decide +kernel
theorem dX10_order_25 : decode cX10_order 25 = .ok (.invokevirtual 104, 3) := by decide +kernel
theorem dX10_order_28 : decode cX10_order 28 = .ok (.i2l, 1) := by decide +kernel
theorem dX10_order_29 : decode cX10_order 29 = .ok (.aload_n 0, 1) := by decide +kernel
theorem dX10_order_30 : decode cX10_order 30 = .ok (.getfield 10, 3) := by decide +kernel
theorem dX10_order_33 : decode cX10_order 33 = .ok (.iload_n 1, 1) := by decide +kernel
theorem dX10_order_34 : decode cX10_order 34 = .ok (.invokevirtual 90, 3) := by decide +kernel
theorem dX10_order_37 : decode cX10_order 37 = .ok (.i2l, 1) := by decide +kernel
theorem dX10_order_38 : decode cX10_order 38 = .ok (.lmul, 1) := by decide +kernel
theorem dX10_order_39 : decode cX10_order 39 = .ok (.lstore 5, 2) := by decide +kernel
theorem dX10_order_41 : decode cX10_order 41 = .ok (.lload_n 3, 1) := by decide +kernel
theorem dX10_order_42 : decode cX10_order 42 = .ok (.lload 5, 2) := by decide +kernel
theorem dX10_order_44 : decode cX10_order 44 = .ok (.lcmp, 1) := by decide +kernel
theorem dX10_order_45 : decode cX10_order 45 = .ok (.ifCond .ne 5, 3) := by decide +kernel
theorem dX10_order_48 : decode cX10_order 48 = .ok (.iconst 0, 1) := by decide +kernel
theorem dX10_order_49 : decode cX10_order 49 = .ok (.ireturn, 1) := by decide +kernel
theorem dX10_order_50 : decode cX10_order 50 = .ok (.lload_n 3, 1) := by decide +kernel
theorem dX10_order_51 : decode cX10_order 51 = .ok (.lload 5, 2) := by decide +kernel
theorem dX10_order_53 : decode cX10_order 53 = .ok (.lcmp, 1) := by decide +kernel
theorem dX10_order_54 : decode cX10_order 54 = .ok (.ifCond .le 7, 3) := by decide +kernel
theorem dX10_order_57 : decode cX10_order 57 = .ok (.iconst 1, 1) := by decide +kernel
theorem dX10_order_58 : decode cX10_order 58 = .ok (.goto 4, 3) := by decide +kernel
theorem dX10_order_61 : decode cX10_order 61 = .ok (.iconst (-1), 1) := by decide +kernel
theorem dX10_order_62 : decode cX10_order 62 = .ok (.ireturn, 1) := by decide +kernel
theorem dX10_codeOfDigit_0 : decode cX10_codeOfDigit 0 = .ok (.iload_n 0, 1) := by decide +kernel
theorem dX10_codeOfDigit_1 : decode cX10_codeOfDigit 1 = .ok (.bipush 10, 2) := by decide +kernel
theorem dX10_codeOfDigit_3 : decode cX10_codeOfDigit 3 = .ok (.if_icmp .ge 10, 3) := by decide +kernel
theorem dX10_codeOfDigit_6 : decode cX10_codeOfDigit 6 = .ok (.bipush 48, 2) := by decide +kernel
theorem dX10_codeOfDigit_8 : decode cX10_codeOfDigit 8 = .ok (.iload_n 0, 1) := by decide +kernel
theorem dX10_codeOfDigit_9 : decode cX10_codeOfDigit 9 = .ok (.iadd, 1) := by decide +kernel
theorem dX10_codeOfDigit_10 : decode cX10_codeOfDigit 10 = .ok (.goto 10, 3) := by decide +kernel
theorem dX10_codeOfDigit_13 : decode cX10_codeOfDigit 13 = .ok (.bipush 97, 2) := by decide +kernel
theorem dX10_codeOfDigit_15 : decode cX10_codeOfDigit 15 = .ok (.iload_n 0, 1) := by decide +kernel
theorem dX10_codeOfDigit_16 : decode cX10_codeOfDigit 16 = .ok (.iadd, 1) := by decide +kernel
theorem dX10_codeOfDigit_17 : decode cX10_codeOfDigit 17 = .ok (.bipush 10, 2) := by decide +kernel
theorem dX10_codeOfDigit_19 : decode cX10_codeOfDigit 19 = .ok (.isub, 1) := by decide +kernel
theorem dX10_codeOfDigit_20 : decode cX10_codeOfDigit 20 = .ok (.ireturn, 1) := by decide +kernel
theorem dX10_codeBehind_0 : decode cX10_codeBehind 0 = .ok (.aload_n 0, 1) := by decide +kernel
theorem dX10_codeBehind_1 : decode cX10_codeBehind 1 = .ok (.getfield 10, 3) := by decide +kernel
theorem dX10_codeBehind_4 : decode cX10_codeBehind 4 = .ok (.iload_n 1, 1) := by decide +kernel
theorem dX10_codeBehind_5 : decode cX10_codeBehind 5 = .ok (.invokevirtual 90, 3) := by decide +kernel
theorem dX10_codeBehind_8 : decode cX10_codeBehind 8 = .ok (.istore_n 3, 1) := by decide +kernel
theorem dX10_codeBehind_9 : decode cX10_codeBehind 9 = .ok (.aload_n 0, 1) := by decide +kernel
theorem dX10_codeBehind_10 : decode cX10_codeBehind 10 = .ok (.getfield 10, 3) := by decide +kernel
theorem dX10_codeBehind_13 : decode cX10_codeBehind 13 = .ok (.iload_n 1, 1) := by decide +kernel
theorem dX10_codeBehind_14 : decode cX10_codeBehind 14 = .ok (.invokevirtual 214, 3) := by decide +kernel
theorem dX10_codeBehind_17 : decode cX10_codeBehind 17 = .ok (.lstore 4, 2) := by decide +kernel
theorem dX10_codeBehind_19 : decode cX10_codeBehind 19 = .ok (.iload_n 3, 1) := by decide +kernel
theorem dX10_codeBehind_20 : decode cX10_codeBehind 20 = .ok (.i2l, 1) := by decide +kernel
theorem dX10_codeBehind_21 : decode cX10_codeBehind 21 = .ok (.aload_n 0, 1) := by decide +kernel
theorem dX10_codeBehind_22 : decode cX10_codeBehind 22 = .ok (.getfield 10, 3) := by decide +kernel
theorem dX10_codeBehind_25 : decode cX10_codeBehind 25 = .ok (.getfield 66, 3) := by decide +kernel
theorem dX10_codeBehind_28 : decode cX10_codeBehind 28 = .ok (.invokestatic 208, 3) := by decide +kernel
theorem dX10_codeBehind_31 : decode cX10_codeBehind 31 = .ok (.istore 6, 2) := by decide +kernel
theorem dX10_codeBehind_33 : decode cX10_codeBehind 33 = .ok (.iload_n 2, 1) := by decide +kernel
theorem dX10_codeBehind_34 : decode cX10_codeBehind 34 = .ok (.ifCond .ne 6, 3) := by decide +kernel
theorem dX10_codeBehind_37 : decode cX10_codeBehind 37 = .ok (.bipush 46, 2) := by decide +kernel
theorem dX10_codeBehind_39 : decode cX10_codeBehind 39 = .ok (.ireturn, 1) := by decide +kernel
theorem dX10_codeBehind_40 : decode cX10_codeBehind 40 = .ok (.iload_n 2, 1) := by decide +kernel
theorem dX10_codeBehind_41 : decode cX10_codeBehind 41 = .ok (.iload 6, 2) := by decide +kernel
theorem dX10_codeBehind_43 : decode cX10_codeBehind 43 = .ok (.if_icmp .gt 24, 3) := by decide +kernel
theorem dX10_codeBehind_46 : decode cX10_codeBehind 46 = .ok (.lload 4, 2) := by decide +kernel
theorem dX10_codeBehind_48 : decode cX10_codeBehind 48 = .ok (.iload_n 3, 1) := by decide +kernel
theorem dX10_codeBehind_49 : decode cX10_codeBehind 49 = .ok (.i2l, 1) := by decide +kernel
theorem dX10_codeBehind_50 : decode cX10_codeBehind 50 = .ok (.aload_n 0, 1) := by decide +kernel
theorem dX10_codeBehind_51 : decode cX10_codeBehind 51 = .ok (.getfield 10, 3) := by decide +kernel
theorem dX10_codeBehind_54 : decode cX10_codeBehind 54 = .ok (.getfield 66, 3) := by decide +kernel
theorem dX10_codeBehind_57 : decode cX10_codeBehind 57 = .ok (.iload_n 2, 1) := by decide +kernel
theorem dX10_codeBehind_58 : decode cX10_codeBehind 58 = .ok (.iconst 1, 1) := by decide +kernel
theorem dX10_codeBehind_59 : decode cX10_codeBehind 59 = .ok (.isub, 1) := by decide +kernel
theorem dX10_codeBehind_60 : decode cX10_codeBehind 60 = .ok (.invokestatic 232, 3) := by decide +kernel
theorem dX10_codeBehind_63 : decode cX10_codeBehind 63 = .ok (.invokestatic 243, 3) := by decide +kernel
theorem dX10_codeBehind_66 : decode cX10_codeBehind 66 = .ok (.ireturn, 1) := by decide +kernel
theorem dX10_codeBehind_67 : decode cX10_codeBehind 67 = .ok (.iload_n 2, 1) := by decide +kernel
theorem dX10_codeBehind_68 : decode cX10_codeBehind 68 = .ok (.iload 6, 2) := by decide +kernel
theorem dX10_codeBehind_70 : decode cX10_codeBehind 70 = .ok (.iconst 1, 1) := by decide +kernel
theorem dX10_codeBehind_71 : decode cX10_codeBehind 71 = .ok (.iadd, 1) := by decide +kernel
theorem dX10_codeBehind_72 : decode cX10_codeBehind 72 = .ok (.if_icmp .ne 6, 3) := by decide +kernel
theorem dX10_codeBehind_75 : decode cX10_codeBehind 75 = .ok (.bipush 40, 2) := by decide +kernel
theorem dX10_codeBehind_77 : decode cX10_codeBehind 77 = .ok (.ireturn, 1) := by decide +kernel
theorem dX10_codeBehind_78 : decode cX10_codeBehind 78 = .ok (.iload_n 2, 1) := by decide +kernel
theorem dX10_codeBehind_79 : decode cX10_codeBehind 79 = .ok (.iconst 2, 1) := by decide +kernel
theorem dX10_codeBehind_80 : decode cX10_codeBehind 80 = .ok (.isub, 1) := by decide +kernel
theorem dX10_codeBehind_81 : decode cX10_codeBehind 81 = .ok (.istore 7, 2) := by decide +kernel
theorem dX10_codeBehind_83 : decode cX10_codeBehind 83 = .ok (.iload 7, 2) := by decide +kernel
theorem dX10_codeBehind_85 : decode cX10_codeBehind 85 = .ok (.iload 6, 2) := by decide +kernel
theorem dX10_codeBehind_87 : decode cX10_codeBehind 87 = .ok (.lload 4, 2) := by decide +kernel
theorem dX10_codeBehind_89 : decode cX10_codeBehind 89 = .ok (.iload_n 3, 1) := by decide +kernel
theorem dX10_codeBehind_90 : decode cX10_codeBehind 90 = .ok (.i2l, 1) := by decide +kernel
theorem dX10_codeBehind_91 : decode cX10_codeBehind 91 = .ok (.aload_n 0, 1) := by decide +kernel
theorem dX10_codeBehind_92 : decode cX10_codeBehind 92 = .ok (.getfield 10, 3) := by decide +kernel
theorem dX10_codeBehind_95 : decode cX10_codeBehind 95 = .ok (.getfield 66, 3) := by decide +kernel
theorem dX10_codeBehind_98 : decode cX10_codeBehind 98 = .ok (.iload 6, 2) := by decide +kernel
theorem dX10_codeBehind_100 : decode cX10_codeBehind 100 = .ok (.invokestatic 218, 3) := by decide +kernel
theorem dX10_codeBehind_103 : decode cX10_codeBehind 103 = .ok (.iadd, 1) := by decide +kernel
theorem dX10_codeBehind_104 : decode cX10_codeBehind 104 = .ok (.if_icmp .ge 23, 3) := by decide +kernel
theorem dX10_codeBehind_107 : decode cX10_codeBehind 107 = .ok (.lload 4, 2) := by decide +kernel
theorem dX10_codeBehind_109 : decode cX10_codeBehind 109 = .ok (.iload_n 3, 1) := by decide +kernel
theorem dX10_codeBehind_110 : decode cX10_codeBehind 110 = .ok (.i2l, 1) := by decide +kernel
theorem dX10_codeBehind_111 : decode cX10_codeBehind 111 = .ok (.aload_n 0, 1) := by decide +kernel
theorem dX10_codeBehind_112 : decode cX10_codeBehind 112 = .ok (.getfield 10, 3) := by decide +kernel
theorem dX10_codeBehind_115 : decode cX10_codeBehind 115 = .ok (.getfield 66, 3) := by decide +kernel
theorem dX10_codeBehind_118 : decode cX10_codeBehind 118 = .ok (.iload 7, 2) := by decide +kernel
theorem dX10_codeBehind_120 : decode cX10_codeBehind 120 = .ok (.invokestatic 232, 3) := by decide +kernel
theorem dX10_codeBehind_123 : decode cX10_codeBehind 123 = .ok (.invokestatic 243, 3) := by decide +kernel
theorem dX10_codeBehind_126 : decode cX10_codeBehind 126 = .ok (.ireturn, 1) := by decide +kernel
theorem dX10_codeBehind_127 : decode cX10_codeBehind 127 = .ok (.bipush 41, 2) := by decide +kernel
theorem dX10_codeBehind_129 : decode cX10_codeBehind 129 = .ok (.ireturn, 1) := by decide +kernel
theorem dX10_doParts_0 : decode cX10_doParts 0 = .ok (.iconst 0, 1) := by decide +kernel
theorem dX10_doParts_1 : decode cX10_doParts 1 = .ok (.istore_n 1, 1) := by decide +kernel
theorem dX10_doParts_2 : decode cX10_doParts 2 = .ok (.iconst 0, 1) := by decide +kernel
theorem dX10_doParts_3 : decode cX10_doParts 3 = .ok (.istore_n 2, 1) := by decide +kernel
theorem dX10_doParts_4 : decode cX10_doParts 4 = .ok (.iconst 0, 1) := by decide +kernel
theorem dX10_doParts_5 : decode cX10_doParts 5 = .ok (.istore_n 3, 1) := by decide +kernel
theorem dX10_doParts_6 : decode cX10_doParts 6 = .ok (.iload_n 3, 1) := by decide +kernel
theorem dX10_doParts_7 : decode cX10_doParts 7 = .ok (.aload_n 0, 1) := by decide +kernel
theorem dX10_doParts_8 : decode cX10_doParts 8 = .ok (.getfield 33, 3) := by decide +kernel
theorem dX10_doParts_11 : decode cX10_doParts 11 = .ok (.getfield 130, 3) := by decide +kernel
theorem dX10_doParts_14 : decode cX10_doParts 14 = .ok (.if_icmp .gt 65, 3) := by decide +kernel
theorem dX10_doParts_17 : decode cX10_doParts 17 = .ok (.iload_n 3, 1) := by decide +kernel
theorem dX10_doParts_18 : decode cX10_doParts 18 = .ok (.aload_n 0, 1) := by decide +kernel
theorem dX10_doParts_19 : decode cX10_doParts 19 = .ok (.getfield 33, 3) := by decide +kernel
theorem dX10_doParts_22 : decode cX10_doParts 22 = .ok (.getfield 130, 3) := by decide +kernel
theorem dX10_doParts_25 : decode cX10_doParts 25 = .ok (.if_icmp .eq 16, 3) := by decide +kernel
theorem dX10_doParts_28 : decode cX10_doParts 28 = .ok (.aload_n 0, 1) := by decide +kernel
theorem dX10_doParts_29 : decode cX10_doParts 29 = .ok (.getfield 33, 3) := by decide +kernel
theorem dX10_doParts_32 : decode cX10_doParts 32 = .ok (.iload_n 3, 1) := by decide +kernel
theorem dX10_doParts_33 : decode cX10_doParts 33 = .ok (.invokevirtual 376, 3) := by decide +kernel
theorem dX10_doParts_36 : decode cX10_doParts 36 = .ok (.bipush 59, 2) := by decide +kernel
theorem dX10_doParts_38 : decode cX10_doParts 38 = .ok (.if_icmp .ne 35, 3) := by decide +kernel
theorem dX10_doParts_41 : decode cX10_doParts 41 = .ok (.aload_n 0, 1) := by decide +kernel
theorem dX10_doParts_42 : decode cX10_doParts 42 = .ok (.iload_n 2, 1) := by decide +kernel
theorem dX10_doParts_43 : decode cX10_doParts 43 = .ok (.iload_n 3, 1) := by decide +kernel
theorem dX10_doParts_44 : decode cX10_doParts 44 = .ok (.invokevirtual 408, 3) := by decide +kernel
theorem dX10_doParts_47 : decode cX10_doParts 47 = .ok (.istore 4, 2) := by decide +kernel
theorem dX10_doParts_49 : decode cX10_doParts 49 = .ok (.iload 4, 2) := by decide +kernel
theorem dX10_doParts_51 : decode cX10_doParts 51 = .ok (.ifCond .eq 15, 3) := by decide +kernel
theorem dX10_doParts_54 : decode cX10_doParts 54 = .ok (.aload_n 0, 1) := by decide +kernel
theorem dX10_doParts_55 : decode cX10_doParts 55 = .ok (.getfield 10, 3) := by decide +kernel
theorem dX10_doParts_58 : decode cX10_doParts 58 = .ok (.iload_n 1, 1) := by decide +kernel
theorem dX10_doParts_59 : decode cX10_doParts 59 = .ok (.iload 4, 2) := by decide +kernel
theorem dX10_doParts_61 : decode cX10_doParts 61 = .ok (.invokevirtual 150, 3) := by decide +kernel
theorem dX10_doParts_64 : decode cX10_doParts 64 = .ok (.iload_n 1, 1) := by decide +kernel
theorem dX10_doParts_65 : decode cX10_doParts 65 = .ok (.ireturn, 1) := by decide +kernel
theorem dX10_doParts_66 : decode cX10_doParts 66 = .ok (.iinc 1 1, 3) := by decide +kernel
theorem dX10_doParts_69 : decode cX10_doParts 69 = .ok (.iload_n 3, 1) := by decide +kernel
theorem dX10_doParts_70 : decode cX10_doParts 70 = .ok (.iconst 1, 1) := by decide +kernel
theorem dX10_doParts_71 : decode cX10_doParts 71 = .ok (.iadd, 1) := by decide +kernel
theorem dX10_doParts_72 : decode cX10_doParts 72 = .ok (.istore_n 2, 1) := by decide +kernel
theorem dX10_doParts_73 : decode cX10_doParts 73 = .ok (.iinc 3 1, 3) := by decide +kernel
theorem dX10_doParts_76 : decode cX10_doParts 76 = .ok (.goto (-70), 3) := by decide +kernel
theorem dX10_doParts_79 : decode cX10_doParts 79 = .ok (.iload_n 1, 1) := by decide +kernel
theorem dX10_doParts_80 : decode cX10_doParts 80 = .ok (.ireturn, 1) := by decide +kernel
theorem dX10_doPart_0 : decode cX10_doPart 0 = .ok (.aload_n 0, 1) := by decide +kernel
theorem dX10_doPart_1 : decode cX10_doPart 1 = .ok (.getfield 33, 3) := by decide +kernel
theorem dX10_doPart_4 : decode cX10_doPart 4 = .ok (.iload_n 1, 1) := by decide +kernel
theorem dX10_doPart_5 : decode cX10_doPart 5 = .ok (.invokevirtual 376, 3) := by decide +kernel
theorem dX10_doPart_8 : decode cX10_doPart 8 = .ok (.bipush 98, 2) := by decide +kernel
theorem dX10_doPart_10 : decode cX10_doPart 10 = .ok (.if_icmp .ne 23, 3) := by decide +kernel
theorem dX10_doPart_13 : decode cX10_doPart 13 = .ok (.aload_n 0, 1) := by decide +kernel
theorem dX10_doPart_14 : decode cX10_doPart 14 = .ok (.getfield 10, 3) := by decide +kernel
theorem dX10_doPart_17 : decode cX10_doPart 17 = .ok (.aload_n 0, 1) := by decide +kernel
theorem dX10_doPart_18 : decode cX10_doPart 18 = .ok (.getfield 33, 3) := by decide +kernel
theorem dX10_doPart_21 : decode cX10_doPart 21 = .ok (.iload_n 1, 1) := by decide +kernel
theorem dX10_doPart_22 : decode cX10_doPart 22 = .ok (.iconst 1, 1) := by decide +kernel
theorem dX10_doPart_23 : decode cX10_doPart 23 = .ok (.iadd, 1) := by decide +kernel
theorem dX10_doPart_24 : decode cX10_doPart 24 = .ok (.iload_n 2, 1) := by decide +kernel
theorem dX10_doPart_25 : decode cX10_doPart 25 = .ok (.invokevirtual 411, 3) := by decide +kernel
theorem dX10_doPart_28 : decode cX10_doPart 28 = .ok (.putfield 66, 3) := by decide +kernel
theorem dX10_doPart_31 : decode cX10_doPart 31 = .ok (.iconst 0, 1) := by decide +kernel
theorem dX10_doPart_32 : decode cX10_doPart 32 = .ok (.ireturn, 1) := by decide +kernel
theorem dX10_doPart_33 : decode cX10_doPart 33 = .ok (.aload_n 0, 1) := by decide +kernel
theorem dX10_doPart_34 : decode cX10_doPart 34 = .ok (.getfield 33, 3) := by decide +kernel
theorem dX10_doPart_37 : decode cX10_doPart 37 = .ok (.iload_n 1, 1) := by decide +kernel
theorem dX10_doPart_38 : decode cX10_doPart 38 = .ok (.invokevirtual 376, 3) := by decide +kernel
theorem dX10_doPart_41 : decode cX10_doPart 41 = .ok (.bipush 48, 2) := by decide +kernel
theorem dX10_doPart_43 : decode cX10_doPart 43 = .ok (.isub, 1) := by decide +kernel
theorem dX10_doPart_44 : decode cX10_doPart 44 = .ok (.istore_n 3, 1) := by decide +kernel
theorem dX10_doPart_45 : decode cX10_doPart 45 = .ok (.aload_n 0, 1) := by decide +kernel
theorem dX10_doPart_46 : decode cX10_doPart 46 = .ok (.iload_n 3, 1) := by decide +kernel
theorem dX10_doPart_47 : decode cX10_doPart 47 = .ok (.iload_n 1, 1) := by decide +kernel
theorem dX10_doPart_48 : decode cX10_doPart 48 = .ok (.iconst 1, 1) := by decide +kernel
theorem dX10_doPart_49 : decode cX10_doPart 49 = .ok (.iadd, 1) := by decide +kernel
theorem dX10_doPart_50 : decode cX10_doPart 50 = .ok (.iload_n 2, 1) := by decide +kernel
theorem dX10_doPart_51 : decode cX10_doPart 51 = .ok (.invokevirtual 414, 3) := by decide +kernel
theorem dX10_doPart_54 : decode cX10_doPart 54 = .ok (.istore 4, 2) := by decide +kernel
theorem dX10_doPart_56 : decode cX10_doPart 56 = .ok (.iload 4, 2) := by decide +kernel
theorem dX10_doPart_58 : decode cX10_doPart 58 = .ok (.ifCond .ne 15, 3) := by decide +kernel
theorem dX10_doPart_61 : decode cX10_doPart 61 = .ok (.aload_n 0, 1) := by decide +kernel
theorem dX10_doPart_62 : decode cX10_doPart 62 = .ok (.getfield 10, 3) := by decide +kernel
theorem dX10_doPart_65 : decode cX10_doPart 65 = .ok (.iload_n 3, 1) := by decide +kernel
theorem dX10_doPart_66 : decode cX10_doPart 66 = .ok (.aload_n 0, 1) := by decide +kernel
theorem dX10_doPart_67 : decode cX10_doPart 67 = .ok (.getfield 40, 3) := by decide +kernel
theorem dX10_doPart_70 : decode cX10_doPart 70 = .ok (.invokevirtual 124, 3) := by decide +kernel
theorem dX10_doPart_73 : decode cX10_doPart 73 = .ok (.iload 4, 2) := by decide +kernel
theorem dX10_doPart_75 : decode cX10_doPart 75 = .ok (.ireturn, 1) := by decide +kernel
theorem dX10_formEntry_0 : decode cX10_formEntry 0 = .ok (.aload_n 0, 1) := by decide +kernel
theorem dX10_formEntry_1 : decode cX10_formEntry 1 = .ok (.getfield 33, 3) := by decide +kernel
theorem dX10_formEntry_4 : decode cX10_formEntry 4 = .ok (.iload_n 2, 1) := by decide +kernel
theorem dX10_formEntry_5 : decode cX10_formEntry 5 = .ok (.invokevirtual 376, 3) := by decide +kernel
theorem dX10_formEntry_8 : decode cX10_formEntry 8 = .ok (.istore 4, 2) := by decide +kernel
theorem dX10_formEntry_10 : decode cX10_formEntry 10 = .ok (.iload 4, 2) := by decide +kernel
theorem dX10_formEntry_12 : decode cX10_formEntry 12 = .ok (.bipush 61, 2) := by decide +kernel
theorem dX10_formEntry_14 : decode cX10_formEntry 14 = .ok (.if_icmp .ne 76, 3) := by decide +kernel
theorem dX10_formEntry_17 : decode cX10_formEntry 17 = .ok (.aload_n 0, 1) := by decide +kernel
theorem dX10_formEntry_18 : decode cX10_formEntry 18 = .ok (.getfield 47, 3) := by decide +kernel
theorem dX10_formEntry_21 : decode cX10_formEntry 21 = .ok (.aload_n 0, 1) := by decide +kernel
theorem dX10_formEntry_22 : decode cX10_formEntry 22 = .ok (.getfield 10, 3) := by decide +kernel
theorem dX10_formEntry_25 : decode cX10_formEntry 25 = .ok (.getfield 66, 3) := by decide +kernel
theorem dX10_formEntry_28 : decode cX10_formEntry 28 = .ok (.invokevirtual 417, 3) := by decide +kernel
theorem dX10_formEntry_31 : decode cX10_formEntry 31 = .ok (.iload_n 2, 1) := by decide +kernel
theorem dX10_formEntry_32 : decode cX10_formEntry 32 = .ok (.iconst 1, 1) := by decide +kernel
theorem dX10_formEntry_33 : decode cX10_formEntry 33 = .ok (.iadd, 1) := by decide +kernel
theorem dX10_formEntry_34 : decode cX10_formEntry 34 = .ok (.istore 5, 2) := by decide +kernel
theorem dX10_formEntry_36 : decode cX10_formEntry 36 = .ok (.iload 5, 2) := by decide +kernel
theorem dX10_formEntry_38 : decode cX10_formEntry 38 = .ok (.iload_n 3, 1) := by decide +kernel
theorem dX10_formEntry_39 : decode cX10_formEntry 39 = .ok (.if_icmp .ge 25, 3) := by decide +kernel
theorem dX10_formEntry_42 : decode cX10_formEntry 42 = .ok (.aload_n 0, 1) := by decide +kernel
theorem dX10_formEntry_43 : decode cX10_formEntry 43 = .ok (.getfield 47, 3) := by decide +kernel
theorem dX10_formEntry_46 : decode cX10_formEntry 46 = .ok (.aload_n 0, 1) := by decide +kernel
theorem dX10_formEntry_47 : decode cX10_formEntry 47 = .ok (.getfield 33, 3) := by decide +kernel
theorem dX10_formEntry_50 : decode cX10_formEntry 50 = .ok (.iload 5, 2) := by decide +kernel
theorem dX10_formEntry_52 : decode cX10_formEntry 52 = .ok (.invokevirtual 376, 3) := by decide +kernel
theorem dX10_formEntry_55 : decode cX10_formEntry 55 = .ok (.invokevirtual 420, 3) := by decide +kernel
theorem dX10_formEntry_58 : decode cX10_formEntry 58 = .ok (.iinc 5 1, 3) := by decide +kernel
theorem dX10_formEntry_61 : decode cX10_formEntry 61 = .ok (.goto (-25), 3) := by decide +kernel
theorem dX10_formEntry_64 : decode cX10_formEntry 64 = .ok (.aload_n 0, 1) := by decide +kernel
theorem dX10_formEntry_65 : decode cX10_formEntry 65 = .ok (.getfield 47, 3) := by decide +kernel
theorem dX10_formEntry_68 : decode cX10_formEntry 68 = .ok (.getfield 423, 3) := by decide +kernel
theorem dX10_formEntry_71 : decode cX10_formEntry 71 = .ok (.ifCond .eq 5, 3) := by decide +kernel
theorem dX10_formEntry_74 : decode cX10_formEntry 74 = .ok (.iconst 1, 1) := by decide +kernel
theorem dX10_formEntry_75 : decode cX10_formEntry 75 = .ok (.ireturn, 1) := by decide +kernel
theorem dX10_formEntry_76 : decode cX10_formEntry 76 = .ok (.aload_n 0, 1) := by decide +kernel
theorem dX10_formEntry_77 : decode cX10_formEntry 77 = .ok (.getfield 47, 3) := by decide +kernel
theorem dX10_formEntry_80 : decode cX10_formEntry 80 = .ok (.aload_n 0, 1) := by decide +kernel
theorem dX10_formEntry_81 : decode cX10_formEntry 81 = .ok (.getfield 40, 3) := by decide +kernel
theorem dX10_formEntry_84 : decode cX10_formEntry 84 = .ok (.invokevirtual 426, 3) := by decide +kernel
theorem dX10_formEntry_87 : decode cX10_formEntry 87 = .ok (.goto 49, 3) := by decide +kernel
theorem dX10_formEntry_90 : decode cX10_formEntry 90 = .ok (.iload 4, 2) := by decide +kernel
theorem dX10_formEntry_92 : decode cX10_formEntry 92 = .ok (.bipush 43, 2) := by decide +kernel
theorem dX10_formEntry_94 : decode cX10_formEntry 94 = .ok (.if_icmp .ne 24, 3) := by decide +kernel
theorem dX10_formEntry_97 : decode cX10_formEntry 97 = .ok (.aload_n 0, 1) := by decide +kernel
theorem dX10_formEntry_98 : decode cX10_formEntry 98 = .ok (.iload_n 1, 1) := by decide +kernel
theorem dX10_formEntry_99 : decode cX10_formEntry 99 = .ok (.aload_n 0, 1) := by decide +kernel
theorem dX10_formEntry_100 : decode cX10_formEntry 100 = .ok (.getfield 33, 3) := by decide +kernel
theorem dX10_formEntry_103 : decode cX10_formEntry 103 = .ok (.iload_n 2, 1) := by decide +kernel
theorem dX10_formEntry_104 : decode cX10_formEntry 104 = .ok (.iconst 1, 1) := by decide +kernel
theorem dX10_formEntry_105 : decode cX10_formEntry 105 = .ok (.iadd, 1) := by decide +kernel
theorem dX10_formEntry_106 : decode cX10_formEntry 106 = .ok (.invokevirtual 376, 3) := by decide +kernel
theorem dX10_formEntry_109 : decode cX10_formEntry 109 = .ok (.bipush 48, 2) := by decide +kernel
theorem dX10_formEntry_111 : decode cX10_formEntry 111 = .ok (.isub, 1) := by decide +kernel
theorem dX10_formEntry_112 : decode cX10_formEntry 112 = .ok (.invokevirtual 98, 3) := by decide +kernel
theorem dX10_formEntry_115 : decode cX10_formEntry 115 = .ok (.goto 21, 3) := by decide +kernel
theorem dX10_formEntry_118 : decode cX10_formEntry 118 = .ok (.aload_n 0, 1) := by decide +kernel
theorem dX10_formEntry_119 : decode cX10_formEntry 119 = .ok (.iload_n 1, 1) := by decide +kernel
theorem dX10_formEntry_120 : decode cX10_formEntry 120 = .ok (.aload_n 0, 1) := by decide +kernel
theorem dX10_formEntry_121 : decode cX10_formEntry 121 = .ok (.getfield 33, 3) := by decide +kernel
theorem dX10_formEntry_124 : decode cX10_formEntry 124 = .ok (.iload_n 2, 1) := by decide +kernel
theorem dX10_formEntry_125 : decode cX10_formEntry 125 = .ok (.iconst 1, 1) := by decide +kernel
theorem dX10_formEntry_126 : decode cX10_formEntry 126 = .ok (.iadd, 1) := by decide +kernel
theorem dX10_formEntry_127 : decode cX10_formEntry 127 = .ok (.invokevirtual 376, 3) := by decide +kernel
theorem dX10_formEntry_130 : decode cX10_formEntry 130 = .ok (.bipush 48, 2) := by decide +kernel
theorem dX10_formEntry_132 : decode cX10_formEntry 132 = .ok (.isub, 1) := by decide +kernel
theorem dX10_formEntry_133 : decode cX10_formEntry 133 = .ok (.invokevirtual 107, 3) := by decide +kernel
theorem dX10_formEntry_136 : decode cX10_formEntry 136 = .ok (.aload_n 0, 1) := by decide +kernel
theorem dX10_formEntry_137 : decode cX10_formEntry 137 = .ok (.getfield 40, 3) := by decide +kernel
theorem dX10_formEntry_140 : decode cX10_formEntry 140 = .ok (.invokevirtual 389, 3) := by decide +kernel
theorem dX10_formEntry_143 : decode cX10_formEntry 143 = .ok (.ireturn, 1) := by decide +kernel
theorem dX11_init_0 : decode cX11_init 0 = .ok (.aload_n 0, 1) := by decide +kernel
theorem dX11_init_1 : decode cX11_init 1 = .ok (.invokespecial 1, 3) := by decide +kernel
theorem dX11_init_4 : decode cX11_init 4 = .ok (.aload_n 0, 1) := by decide +kernel
theorem dX11_init_5 : decode cX11_init 5 = .ok (.bipush 15, 2) := by decide +kernel
theorem dX11_init_7 : decode cX11_init 7 = .ok (.newarray .int, 2) := by decide +kernel
theorem dX11_init_9 : decode cX11_init 9 = .ok (.putfield 7, 3) := by decide +kernel
theorem dX11_init_12 : decode cX11_init 12 = .ok (.aload_n 0, 1) := by decide +kernel
theorem dX11_init_13 : decode cX11_init 13 = .ok (.bipush 90, 2) := by decide +kernel
theorem dX11_init_15 : decode cX11_init 15 = .ok (.newarray .int, 2) := by decide +kernel
theorem dX11_init_17 : decode cX11_init 17 = .ok (.putfield 13, 3) := by decide +kernel
theorem dX11_init_20 : decode cX11_init 20 = .ok (.aload_n 0, 1) := by decide +kernel
theorem dX11_init_21 : decode cX11_init 21 = .ok (.bipush 15, 2) := by decide +kernel
theorem dX11_init_23 : decode cX11_init 23 = .ok (.newarray .int, 2) := by decide +kernel
theorem dX11_init_25 : decode cX11_init 25 = .ok (.putfield 16, 3) := by decide +kernel
theorem dX11_init_28 : decode cX11_init 28 = .ok (.aload_n 0, 1) := by decide +kernel
theorem dX11_init_29 : decode cX11_init 29 = .ok (.bipush 60, 2) := by decide +kernel
theorem dX11_init_31 : decode cX11_init 31 = .ok (.newarray .int, 2) := by decide +kernel
theorem dX11_init_33 : decode cX11_init 33 = .ok (.putfield 19, 3) := by decide +kernel
theorem dX11_init_36 : decode cX11_init 36 = .ok (.aload_n 0, 1) := by decide +kernel
theorem dX11_init_37 : decode cX11_init 37 = .ok (.sipush 512, 3) := by decide +kernel
theorem dX11_init_40 : decode cX11_init 40 = .ok (.newarray .int, 2) := by decide +kernel
theorem dX11_init_42 : decode cX11_init 42 = .ok (.putfield 22, 3) := by decide +kernel
theorem dX11_init_45 : decode cX11_init 45 = .ok (.aload_n 0, 1) := by decide +kernel
theorem dX11_init_46 : decode cX11_init 46 = .ok (.bipush 40, 2) := by decide +kernel
theorem dX11_init_48 : decode cX11_init 48 = .ok (.newarray .int, 2) := by decide +kernel
theorem dX11_init_50 : decode cX11_init 50 = .ok (.putfield 25, 3) := by decide +kernel
theorem dX11_init_53 : decode cX11_init 53 = .ok (.aload_n 0, 1) := by decide +kernel
theorem dX11_init_54 : decode cX11_init 54 = .ok (.bipush 40, 2) := by decide +kernel
theorem dX11_init_56 : decode cX11_init 56 = .ok (.newarray .int, 2) := by decide +kernel
theorem dX11_init_58 : decode cX11_init 58 = .ok (.putfield 28, 3) := by decide +kernel
theorem dX11_init_61 : decode cX11_init 61 = .ok (.aload_n 0, 1) := by decide +kernel
theorem dX11_init_62 : decode cX11_init 62 = .ok (.bipush 41, 2) := by decide +kernel
theorem dX11_init_64 : decode cX11_init 64 = .ok (.newarray .int, 2) := by decide +kernel
theorem dX11_init_66 : decode cX11_init 66 = .ok (.putfield 31, 3) := by decide +kernel
theorem dX11_init_69 : decode cX11_init 69 = .ok (.aload_n 0, 1) := by decide +kernel
theorem dX11_init_70 : decode cX11_init 70 = .ok (.iconst 0, 1) := by decide +kernel
theorem dX11_init_71 : decode cX11_init 71 = .ok (.putfield 34, 3) := by decide +kernel
theorem dX11_init_74 : decode cX11_init 74 = .ok (.aload_n 0, 1) := by decide +kernel
theorem dX11_init_75 : decode cX11_init 75 = .ok (.getfield 7, 3) := by decide +kernel
theorem dX11_init_78 : decode cX11_init 78 = .ok (.iconst 0, 1) := by decide +kernel
theorem dX11_init_79 : decode cX11_init 79 = .ok (.bipush 6, 2) := by decide +kernel
theorem dX11_init_81 : decode cX11_init 81 = .ok (.iastore, 1) := by decide +kernel
theorem dX11_init_82 : decode cX11_init 82 = .ok (.aload_n 0, 1) := by decide +kernel
theorem dX11_init_83 : decode cX11_init 83 = .ok (.getfield 7, 3) := by decide +kernel
theorem dX11_init_86 : decode cX11_init 86 = .ok (.iconst 1, 1) := by decide +kernel
theorem dX11_init_87 : decode cX11_init 87 = .ok (.iconst (-1), 1) := by decide +kernel
theorem dX11_init_88 : decode cX11_init 88 = .ok (.iastore, 1) := by decide +kernel
theorem dX11_init_89 : decode cX11_init 89 = .ok (.iconst 0, 1) := by decide +kernel
theorem dX11_init_90 : decode cX11_init 90 = .ok (.istore_n 1, 1) := by decide +kernel
theorem dX11_init_91 : decode cX11_init 91 = .ok (.iload_n 1, 1) := by decide +kernel
theorem dX11_init_92 : decode cX11_init 92 = .ok (.bipush 6, 2) := by decide +kernel
theorem dX11_init_94 : decode cX11_init 94 = .ok (.if_icmp .ge 19, 3) := by decide +kernel
theorem dX11_init_97 : decode cX11_init 97 = .ok (.aload_n 0, 1) := by decide +kernel
theorem dX11_init_98 : decode cX11_init 98 = .ok (.getfield 7, 3) := by decide +kernel
theorem dX11_init_101 : decode cX11_init 101 = .ok (.bipush 9, 2) := by decide +kernel
theorem dX11_init_103 : decode cX11_init 103 = .ok (.iload_n 1, 1) := by decide +kernel
theorem dX11_init_104 : decode cX11_init 104 = .ok (.iadd, 1) := by decide +kernel
theorem dX11_init_105 : decode cX11_init 105 = .ok (.iconst 1, 1) := by decide +kernel
theorem dX11_init_106 : decode cX11_init 106 = .ok (.iastore, 1) := by decide +kernel
theorem dX11_init_107 : decode cX11_init 107 = .ok (.iinc 1 1, 3) := by decide +kernel
theorem dX11_init_110 : decode cX11_init 110 = .ok (.goto (-19), 3) := by decide +kernel
theorem dX11_init_113 : decode cX11_init 113 = .ok (.return_, 1) := by decide +kernel
theorem dX11_thrown_0 : decode cX11_thrown 0 = .ok (.aload_n 0, 1) := by decide +kernel
theorem dX11_thrown_1 : decode cX11_thrown 1 = .ok (.getfield 34, 3) := by decide +kernel
theorem dX11_thrown_4 : decode cX11_thrown 4 = .ok (.ireturn, 1) := by decide +kernel
theorem dX11_fails_0 : decode cX11_fails 0 = .ok (.aload_n 0, 1) := by decide +kernel
theorem dX11_fails_1 : decode cX11_fails 1 = .ok (.iload_n 1, 1) := by decide +kernel
theorem dX11_fails_2 : decode cX11_fails 2 = .ok (.putfield 34, 3) := by decide +kernel
theorem dX11_fails_5 : decode cX11_fails 5 = .ok (.iconst 0, 1) := by decide +kernel
theorem dX11_fails_6 : decode cX11_fails 6 = .ok (.ireturn, 1) := by decide +kernel
theorem dX11_in_0 : decode cX11_in 0 = .ok (.iload_n 0, 1) := by decide +kernel
theorem dX11_in_1 : decode cX11_in 1 = .ok (.iload_n 1, 1) := by decide +kernel
theorem dX11_in_2 : decode cX11_in 2 = .ok (.if_icmp .lt 12, 3) := by decide +kernel
theorem dX11_in_5 : decode cX11_in 5 = .ok (.iload_n 0, 1) := by decide +kernel
theorem dX11_in_6 : decode cX11_in 6 = .ok (.iload_n 2, 1) := by decide +kernel
theorem dX11_in_7 : decode cX11_in 7 = .ok (.if_icmp .gt 7, 3) := by decide +kernel
theorem dX11_in_10 : decode cX11_in 10 = .ok (.iconst 1, 1) := by decide +kernel
theorem dX11_in_11 : decode cX11_in 11 = .ok (.goto 4, 3) := by decide +kernel
theorem dX11_in_14 : decode cX11_in 14 = .ok (.iconst 0, 1) := by decide +kernel
theorem dX11_in_15 : decode cX11_in 15 = .ok (.ireturn, 1) := by decide +kernel
theorem dX11_isAccount_0 : decode cX11_isAccount 0 = .ok (.iload_n 0, 1) := by decide +kernel
theorem dX11_isAccount_1 : decode cX11_isAccount 1 = .ok (.iconst 0, 1) := by decide +kernel
theorem dX11_isAccount_2 : decode cX11_isAccount 2 = .ok (.iconst 5, 1) := by decide +kernel
theorem dX11_isAccount_3 : decode cX11_isAccount 3 = .ok (.invokestatic 38, 3) := by decide +kernel
theorem dX11_isAccount_6 : decode cX11_isAccount 6 = .ok (.ireturn, 1) := by decide +kernel
theorem dX11_areAccounts_0 : decode cX11_areAccounts 0 = .ok (.iload_n 0, 1) := by decide +kernel
theorem dX11_areAccounts_1 : decode cX11_areAccounts 1 = .ok (.invokestatic 42, 3) := by decide +kernel
theorem dX11_areAccounts_4 : decode cX11_areAccounts 4 = .ok (.ifCond .eq 14, 3) := by decide +kernel
theorem dX11_areAccounts_7 : decode cX11_areAccounts 7 = .ok (.iload_n 1, 1) := by decide +kernel
theorem dX11_areAccounts_8 : decode cX11_areAccounts 8 = .ok (.invokestatic 42, 3) := by decide +kernel
theorem dX11_areAccounts_11 : decode cX11_areAccounts 11 = .ok (.ifCond .eq 7, 3) := by decide +kernel
theorem dX11_areAccounts_14 : decode cX11_areAccounts 14 = .ok (.iconst 1, 1) := by decide +kernel
theorem dX11_areAccounts_15 : decode cX11_areAccounts 15 = .ok (.goto 4, 3) := by decide +kernel
theorem dX11_areAccounts_18 : decode cX11_areAccounts 18 = .ok (.iconst 0, 1) := by decide +kernel
theorem dX11_areAccounts_19 : decode cX11_areAccounts 19 = .ok (.ireturn, 1) := by decide +kernel
theorem dX11_isBase_0 : decode cX11_isBase 0 = .ok (.iload_n 0, 1) := by decide +kernel
theorem dX11_isBase_1 : decode cX11_isBase 1 = .ok (.iconst 2, 1) := by decide +kernel
theorem dX11_isBase_2 : decode cX11_isBase 2 = .ok (.bipush 16, 2) := by decide +kernel
theorem dX11_isBase_4 : decode cX11_isBase 4 = .ok (.invokestatic 38, 3) := by decide +kernel
theorem dX11_isBase_7 : decode cX11_isBase 7 = .ok (.ireturn, 1) := by decide +kernel
theorem dX11_up_0 : decode cX11_up 0 = .ok (.aload_n 0, 1) := by decide +kernel
theorem dX11_up_1 : decode cX11_up 1 = .ok (.getfield 7, 3) := by decide +kernel
