theorem dX0_restAfter_0 : decode cX0_restAfter 0 = .ok (.lload_n 2, 1) := by decide +kernel
theorem dX0_restAfter_1 : decode cX0_restAfter 1 = .ok (.lconst 1, 1) := by decide +kernel
theorem dX0_restAfter_2 : decode cX0_restAfter 2 = .ok (.lcmp, 1) := by decide +kernel
theorem dX0_restAfter_3 : decode cX0_restAfter 3 = .ok (.ifCond .ge 5, 3) := by decide +kernel
theorem dX0_restAfter_6 : decode cX0_restAfter 6 = .ok (.lconst 0, 1) := by decide +kernel
theorem dX0_restAfter_7 : decode cX0_restAfter 7 = .ok (.lreturn, 1) := by decide +kernel
theorem dX0_restAfter_8 : decode cX0_restAfter 8 = .ok (.lload_n 0, 1) := by decide +kernel
theorem dX0_restAfter_9 : decode cX0_restAfter 9 = .ok (.lstore 6, 2) := by decide +kernel
theorem dX0_restAfter_11 : decode cX0_restAfter 11 = .ok (.iconst 0, 1) := by decide +kernel
theorem dX0_restAfter_12 : decode cX0_restAfter 12 = .ok (.istore 8, 2) := by decide +kernel
theorem dX0_restAfter_14 : decode cX0_restAfter 14 = .ok (.iload 8, 2) := by decide +kernel
theorem dX0_restAfter_16 : decode cX0_restAfter 16 = .ok (.iload 5, 2) := by decide +kernel
theorem dX0_restAfter_18 : decode cX0_restAfter 18 = .ok (.if_icmp .ge 27, 3) := by decide +kernel
theorem dX0_restAfter_21 : decode cX0_restAfter 21 = .ok (.iload 8, 2) := by decide +kernel
theorem dX0_restAfter_23 : decode cX0_restAfter 23 = .ok (.sipush 2000, 3) := by decide +kernel
theorem dX0_restAfter_26 : decode cX0_restAfter 26 = .ok (.if_icmp .gt 19, 3) := by decide +kernel
theorem dX0_restAfter_29 : decode cX0_restAfter 29 = .ok (.lload 6, 2) := by decide +kernel
theorem dX0_restAfter_31 : decode cX0_restAfter 31 = .ok (.iload 4, 2) := by decide +kernel
theorem dX0_restAfter_33 : decode cX0_restAfter 33 = .ok (.i2l, 1) := by decide +kernel
theorem dX0_restAfter_34 : decode cX0_restAfter 34 = .ok (.lmul, 1) := by decide +kernel
theorem dX0_restAfter_35 : decode cX0_restAfter 35 = .ok (.lload_n 2, 1) := by decide +kernel
theorem dX0_restAfter_36 : decode cX0_restAfter 36 = .ok (.lrem, 1) := by decide +kernel
theorem dX0_restAfter_37 : decode cX0_restAfter 37 = .ok (.lstore 6, 2) := by decide +kernel
theorem dX0_restAfter_39 : decode cX0_restAfter 39 = .ok (.iinc 8 1, 3) := by decide +kernel
theorem dX0_restAfter_42 : decode cX0_restAfter 42 = .ok (.goto (-28), 3) := by decide +kernel
theorem dX0_restAfter_45 : decode cX0_restAfter 45 = .ok (.lload 6, 2) := by decide +kernel
theorem dX0_restAfter_47 : decode cX0_restAfter 47 = .ok (.lreturn, 1) := by decide +kernel
theorem dX0_digit_0 : decode cX0_digit 0 = .ok (.lload_n 0, 1) := by decide +kernel
theorem dX0_digit_1 : decode cX0_digit 1 = .ok (.lload_n 2, 1) := by decide +kernel
theorem dX0_digit_2 : decode cX0_digit 2 = .ok (.iload 4, 2) := by decide +kernel
theorem dX0_digit_4 : decode cX0_digit 4 = .ok (.iload 5, 2) := by decide +kernel
theorem dX0_digit_6 : decode cX0_digit 6 = .ok (.invokestatic 9, 3) := by decide +kernel
theorem dX0_digit_9 : decode cX0_digit 9 = .ok (.lstore 6, 2) := by decide +kernel
theorem dX0_digit_11 : decode cX0_digit 11 = .ok (.lload 6, 2) := by decide +kernel
theorem dX0_digit_13 : decode cX0_digit 13 = .ok (.iload 4, 2) := by decide +kernel
theorem dX0_digit_15 : decode cX0_digit 15 = .ok (.i2l, 1) := by decide +kernel
theorem dX0_digit_16 : decode cX0_digit 16 = .ok (.lmul, 1) := by decide +kernel
theorem dX0_digit_17 : decode cX0_digit 17 = .ok (.lload_n 2, 1) := by decide +kernel
theorem dX0_digit_18 : decode cX0_digit 18 = .ok (.invokestatic 15, 3) := by decide +kernel
theorem dX0_digit_21 : decode cX0_digit 21 = .ok (.l2i, 1) := by decide +kernel
theorem dX0_digit_22 : decode cX0_digit 22 = .ok (.ireturn, 1) := by decide +kernel
theorem dX0_digitOn_0 : decode cX0_digitOn 0 = .ok (.lload_n 0, 1) := by decide +kernel
theorem dX0_digitOn_1 : decode cX0_digitOn 1 = .ok (.lload_n 0, 1) := by decide +kernel
theorem dX0_digitOn_2 : decode cX0_digitOn 2 = .ok (.iload_n 2, 1) := by decide +kernel
theorem dX0_digitOn_3 : decode cX0_digitOn 3 = .ok (.i2l, 1) := by decide +kernel
theorem dX0_digitOn_4 : decode cX0_digitOn 4 = .ok (.invokestatic 21, 3) := by decide +kernel
theorem dX0_digitOn_7 : decode cX0_digitOn 7 = .ok (.invokestatic 15, 3) := by decide +kernel
theorem dX0_digitOn_10 : decode cX0_digitOn 10 = .ok (.lreturn, 1) := by decide +kernel
theorem dX0_head_0 : decode cX0_head 0 = .ok (.iconst 0, 1) := by decide +kernel
theorem dX0_head_1 : decode cX0_head 1 = .ok (.istore_n 3, 1) := by decide +kernel
theorem dX0_head_2 : decode cX0_head 2 = .ok (.lload_n 0, 1) := by decide +kernel
theorem dX0_head_3 : decode cX0_head 3 = .ok (.lstore 4, 2) := by decide +kernel
theorem dX0_head_5 : decode cX0_head 5 = .ok (.lload 4, 2) := by decide +kernel
theorem dX0_head_7 : decode cX0_head 7 = .ok (.iload_n 2, 1) := by decide +kernel
theorem dX0_head_8 : decode cX0_head 8 = .ok (.invokestatic 24, 3) := by decide +kernel
theorem dX0_head_11 : decode cX0_head 11 = .ok (.lstore 6, 2) := by decide +kernel
theorem dX0_head_13 : decode cX0_head 13 = .ok (.lload 6, 2) := by decide +kernel
theorem dX0_head_15 : decode cX0_head 15 = .ok (.lload 4, 2) := by decide +kernel
theorem dX0_head_17 : decode cX0_head 17 = .ok (.lcmp, 1) := by decide +kernel
theorem dX0_head_18 : decode cX0_head 18 = .ok (.ifCond .eq 27, 3) := by decide +kernel
theorem dX0_head_21 : decode cX0_head 21 = .ok (.iload_n 3, 1) := by decide +kernel
theorem dX0_head_22 : decode cX0_head 22 = .ok (.bipush 32, 2) := by decide +kernel
theorem dX0_head_24 : decode cX0_head 24 = .ok (.if_icmp .ge 21, 3) := by decide +kernel
theorem dX0_head_27 : decode cX0_head 27 = .ok (.lload 6, 2) := by decide +kernel
theorem dX0_head_29 : decode cX0_head 29 = .ok (.lstore 4, 2) := by decide +kernel
theorem dX0_head_31 : decode cX0_head 31 = .ok (.lload 4, 2) := by decide +kernel
theorem dX0_head_33 : decode cX0_head 33 = .ok (.iload_n 2, 1) := by decide +kernel
theorem dX0_head_34 : decode cX0_head 34 = .ok (.invokestatic 24, 3) := by decide +kernel
theorem dX0_head_37 : decode cX0_head 37 = .ok (.lstore 6, 2) := by decide +kernel
theorem dX0_head_39 : decode cX0_head 39 = .ok (.iinc 3 1, 3) := by decide +kernel
theorem dX0_head_42 : decode cX0_head 42 = .ok (.goto (-29), 3) := by decide +kernel
theorem dX0_head_45 : decode cX0_head 45 = .ok (.iload_n 3, 1) := by decide +kernel
theorem dX0_head_46 : decode cX0_head 46 = .ok (.ireturn, 1) := by decide +kernel
theorem dX0_coprimePart_0 : decode cX0_coprimePart 0 = .ok (.lload_n 0, 1) := by decide +kernel
theorem dX0_coprimePart_1 : decode cX0_coprimePart 1 = .ok (.lstore_n 3, 1) := by decide +kernel
theorem dX0_coprimePart_2 : decode cX0_coprimePart 2 = .ok (.lload_n 0, 1) := by decide +kernel
theorem dX0_coprimePart_3 : decode cX0_coprimePart 3 = .ok (.iload_n 2, 1) := by decide +kernel
theorem dX0_coprimePart_4 : decode cX0_coprimePart 4 = .ok (.invokestatic 28, 3) := by decide +kernel
theorem dX0_coprimePart_7 : decode cX0_coprimePart 7 = .ok (.istore 5, 2) := by decide +kernel
theorem dX0_coprimePart_9 : decode cX0_coprimePart 9 = .ok (.iload 5, 2) := by decide +kernel
theorem dX0_coprimePart_11 : decode cX0_coprimePart 11 = .ok (.ifCond .le 15, 3) := by decide +kernel
theorem dX0_coprimePart_14 : decode cX0_coprimePart 14 = .ok (.lload_n 3, 1) := by decide +kernel
theorem dX0_coprimePart_15 : decode cX0_coprimePart 15 = .ok (.iload_n 2, 1) := by decide +kernel
theorem dX0_coprimePart_16 : decode cX0_coprimePart 16 = .ok (.invokestatic 24, 3) := by decide +kernel
theorem dX0_coprimePart_19 : decode cX0_coprimePart 19 = .ok (.lstore_n 3, 1) := by decide +kernel
theorem dX0_coprimePart_20 : decode cX0_coprimePart 20 = .ok (.iinc 5 (-1), 3) := by decide +kernel
theorem dX0_coprimePart_23 : decode cX0_coprimePart 23 = .ok (.goto (-14), 3) := by decide +kernel
theorem dX0_coprimePart_26 : decode cX0_coprimePart 26 = .ok (.lload_n 3, 1) := by decide +kernel
theorem dX0_coprimePart_27 : decode cX0_coprimePart 27 = .ok (.lreturn, 1) := by decide +kernel
theorem dX0_periodByDividing_0 : decode cX0_periodByDividing 0 = .ok (.lload_n 0, 1) := by decide +kernel
theorem dX0_periodByDividing_1 : decode cX0_periodByDividing 1 = .ok (.lload_n 2, 1) := by decide +kernel
theorem dX0_periodByDividing_2 : decode cX0_periodByDividing 2 = .ok (.iload 4, 2) := by decide +kernel
theorem dX0_periodByDividing_4 : decode cX0_periodByDividing 4 = .ok (.iload 5, 2) := by decide +kernel
theorem dX0_periodByDividing_6 : decode cX0_periodByDividing 6 = .ok (.invokestatic 9, 3) := by decide +kernel
theorem dX0_periodByDividing_9 : decode cX0_periodByDividing 9 = .ok (.lstore 6, 2) := by decide +kernel
theorem dX0_periodByDividing_11 : decode cX0_periodByDividing 11 = .ok (.lload 6, 2) := by decide +kernel
theorem dX0_periodByDividing_13 : decode cX0_periodByDividing 13 = .ok (.lconst 0, 1) := by decide +kernel
theorem dX0_periodByDividing_14 : decode cX0_periodByDividing 14 = .ok (.lcmp, 1) := by decide +kernel
theorem dX0_periodByDividing_15 : decode cX0_periodByDividing 15 = .ok (.ifCond .ne 5, 3) := by decide +kernel
theorem dX0_periodByDividing_18 : decode cX0_periodByDividing 18 = .ok (.iconst 0, 1) := by decide +kernel
theorem dX0_periodByDividing_19 : decode cX0_periodByDividing 19 = .ok (.ireturn, 1) := by decide +kernel
theorem dX0_periodByDividing_20 : decode cX0_periodByDividing 20 = .ok (.iconst 1, 1) := by decide +kernel
theorem dX0_periodByDividing_21 : decode cX0_periodByDividing 21 = .ok (.istore 8, 2) := by decide +kernel
theorem dX0_periodByDividing_23 : decode cX0_periodByDividing 23 = .ok (.lload 6, 2) := by decide +kernel
theorem dX0_periodByDividing_25 : decode cX0_periodByDividing 25 = .ok (.lload_n 2, 1) := by decide +kernel
theorem dX0_periodByDividing_26 : decode cX0_periodByDividing 26 = .ok (.iload 4, 2) := by decide +kernel
theorem dX0_periodByDividing_28 : decode cX0_periodByDividing 28 = .ok (.iconst 1, 1) := by decide +kernel
theorem dX0_periodByDividing_29 : decode cX0_periodByDividing 29 = .ok (.invokestatic 9, 3) := by decide +kernel
theorem dX0_periodByDividing_32 : decode cX0_periodByDividing 32 = .ok (.lstore 9, 2) := by decide +kernel
theorem dX0_periodByDividing_34 : decode cX0_periodByDividing 34 = .ok (.lload 9, 2) := by decide +kernel
theorem dX0_periodByDividing_36 : decode cX0_periodByDividing 36 = .ok (.lload 6, 2) := by decide +kernel
theorem dX0_periodByDividing_38 : decode cX0_periodByDividing 38 = .ok (.lcmp, 1) := by decide +kernel
theorem dX0_periodByDividing_39 : decode cX0_periodByDividing 39 = .ok (.ifCond .eq 28, 3) := by decide +kernel
theorem dX0_periodByDividing_42 : decode cX0_periodByDividing 42 = .ok (.iload 8, 2) := by decide +kernel
theorem dX0_periodByDividing_44 : decode cX0_periodByDividing 44 = .ok (.i2l, 1) := by decide +kernel
theorem dX0_periodByDividing_45 : decode cX0_periodByDividing 45 = .ok (.lload_n 2, 1) := by decide +kernel
theorem dX0_periodByDividing_46 : decode cX0_periodByDividing 46 = .ok (.lcmp, 1) := by decide +kernel
theorem dX0_periodByDividing_47 : decode cX0_periodByDividing 47 = .ok (.ifCond .ge 20, 3) := by decide +kernel
theorem dX0_periodByDividing_50 : decode cX0_periodByDividing 50 = .ok (.lload 9, 2) := by decide +kernel
theorem dX0_periodByDividing_52 : decode cX0_periodByDividing 52 = .ok (.lload_n 2, 1) := by decide +kernel
theorem dX0_periodByDividing_53 : decode cX0_periodByDividing 53 = .ok (.iload 4, 2) := by decide +kernel
theorem dX0_periodByDividing_55 : decode cX0_periodByDividing 55 = .ok (.iconst 1, 1) := by decide +kernel
theorem dX0_periodByDividing_56 : decode cX0_periodByDividing 56 = .ok (.invokestatic 9, 3) := by decide +kernel
theorem dX0_periodByDividing_59 : decode cX0_periodByDividing 59 = .ok (.lstore 9, 2) := by decide +kernel
theorem dX0_periodByDividing_61 : decode cX0_periodByDividing 61 = .ok (.iinc 8 1, 3) := by decide +kernel
theorem dX0_periodByDividing_64 : decode cX0_periodByDividing 64 = .ok (.goto (-30), 3) := by decide +kernel
theorem dX0_periodByDividing_67 : decode cX0_periodByDividing 67 = .ok (.iload 8, 2) := by decide +kernel
theorem dX0_periodByDividing_69 : decode cX0_periodByDividing 69 = .ok (.ireturn, 1) := by decide +kernel
theorem dX0_timesToOne_0 : decode cX0_timesToOne 0 = .ok (.lload_n 1, 1) := by decide +kernel
theorem dX0_timesToOne_1 : decode cX0_timesToOne 1 = .ok (.lconst 1, 1) := by decide +kernel
theorem dX0_timesToOne_2 : decode cX0_timesToOne 2 = .ok (.lcmp, 1) := by decide +kernel
theorem dX0_timesToOne_3 : decode cX0_timesToOne 3 = .ok (.ifCond .gt 5, 3) := by decide +kernel
theorem dX0_timesToOne_6 : decode cX0_timesToOne 6 = .ok (.iconst 0, 1) := by decide +kernel
theorem dX0_timesToOne_7 : decode cX0_timesToOne 7 = .ok (.ireturn, 1) := by decide +kernel
theorem dX0_timesToOne_8 : decode cX0_timesToOne 8 = .ok (.iload_n 0, 1) := by decide +kernel
theorem dX0_timesToOne_9 : decode cX0_timesToOne 9 = .ok (.i2l, 1) := by decide +kernel
theorem dX0_timesToOne_10 : decode cX0_timesToOne 10 = .ok (.lload_n 1, 1) := by decide +kernel
theorem dX0_timesToOne_11 : decode cX0_timesToOne 11 = .ok (.lrem, 1) := by decide +kernel
theorem dX0_timesToOne_12 : decode cX0_timesToOne 12 = .ok (.lstore 4, 2) := by decide +kernel
theorem dX0_timesToOne_14 : decode cX0_timesToOne 14 = .ok (.iconst 1, 1) := by decide +kernel
theorem dX0_timesToOne_15 : decode cX0_timesToOne 15 = .ok (.istore 6, 2) := by decide +kernel
theorem dX0_timesToOne_17 : decode cX0_timesToOne 17 = .ok (.lload 4, 2) := by decide +kernel
theorem dX0_timesToOne_19 : decode cX0_timesToOne 19 = .ok (.lconst 1, 1) := by decide +kernel
theorem dX0_timesToOne_20 : decode cX0_timesToOne 20 = .ok (.lcmp, 1) := by decide +kernel
theorem dX0_timesToOne_21 : decode cX0_timesToOne 21 = .ok (.ifCond .eq 24, 3) := by decide +kernel
theorem dX0_timesToOne_24 : decode cX0_timesToOne 24 = .ok (.iload 6, 2) := by decide +kernel
theorem dX0_timesToOne_26 : decode cX0_timesToOne 26 = .ok (.iload_n 3, 1) := by decide +kernel
theorem dX0_timesToOne_27 : decode cX0_timesToOne 27 = .ok (.if_icmp .ge 18, 3) := by decide +kernel
theorem dX0_timesToOne_30 : decode cX0_timesToOne 30 = .ok (.lload 4, 2) := by decide +kernel
theorem dX0_timesToOne_32 : decode cX0_timesToOne 32 = .ok (.iload_n 0, 1) := by decide +kernel
theorem dX0_timesToOne_33 : decode cX0_timesToOne 33 = .ok (.i2l, 1) := by decide +kernel
theorem dX0_timesToOne_34 : decode cX0_timesToOne 34 = .ok (.lmul, 1) := by decide +kernel
theorem dX0_timesToOne_35 : decode cX0_timesToOne 35 = .ok (.lload_n 1, 1) := by decide +kernel
theorem dX0_timesToOne_36 : decode cX0_timesToOne 36 = .ok (.lrem, 1) := by decide +kernel
theorem dX0_timesToOne_37 : decode cX0_timesToOne 37 = .ok (.lstore 4, 2) := by decide +kernel
theorem dX0_timesToOne_39 : decode cX0_timesToOne 39 = .ok (.iinc 6 1, 3) := by decide +kernel
theorem dX0_timesToOne_42 : decode cX0_timesToOne 42 = .ok (.goto (-25), 3) := by decide +kernel
theorem dX0_timesToOne_45 : decode cX0_timesToOne 45 = .ok (.iload 6, 2) := by decide +kernel
theorem dX0_timesToOne_47 : decode cX0_timesToOne 47 = .ok (.ireturn, 1) := by decide +kernel
theorem dX1_init_0 : decode cX1_init 0 = .ok (.aload_n 0, 1) := by decide +kernel
theorem dX1_init_1 : decode cX1_init 1 = .ok (.invokespecial 3, 3) := by decide +kernel
theorem dX1_init_4 : decode cX1_init 4 = .ok (.aload_n 0, 1) := by decide +kernel
theorem dX1_init_5 : decode cX1_init 5 = .ok (.iconst 0, 1) := by decide +kernel
theorem dX1_init_6 : decode cX1_init 6 = .ok (.putfield 9, 3) := by decide +kernel
theorem dX1_init_9 : decode cX1_init 9 = .ok (.aload_n 0, 1) := by decide +kernel
theorem dX1_init_10 : decode cX1_init 10 = .ok (.iconst 0, 1) := by decide +kernel
theorem dX1_init_11 : decode cX1_init 11 = .ok (.putfield 15, 3) := by decide +kernel
theorem dX1_init_14 : decode cX1_init 14 = .ok (.aload_n 0, 1) := by decide +kernel
theorem dX1_init_15 : decode cX1_init 15 = .ok (.iconst 0, 1) := by decide +kernel
theorem dX1_init_16 : decode cX1_init 16 = .ok (.putfield 18, 3) := by decide +kernel
theorem dX1_init_19 : decode cX1_init 19 = .ok (.aload_n 0, 1) := by decide +kernel
theorem dX1_init_20 : decode cX1_init 20 = .ok (.bipush 31, 2) := by decide +kernel
theorem dX1_init_22 : decode cX1_init 22 = .ok (.newarray .int, 2) := by decide +kernel
theorem dX1_init_24 : decode cX1_init 24 = .ok (.putfield 21, 3) := by decide +kernel
theorem dX1_init_27 : decode cX1_init 27 = .ok (.return_, 1) := by decide +kernel
theorem dX1_form_0 : decode cX1_form 0 = .ok (.iload_n 1, 1) := by decide +kernel
theorem dX1_form_1 : decode cX1_form 1 = .ok (.iload_n 3, 1) := by decide +kernel
theorem dX1_form_2 : decode cX1_form 2 = .ok (.invokestatic 25, 3) := by decide +kernel
theorem dX1_form_5 : decode cX1_form 5 = .ok (.iload_n 2, 1) := by decide +kernel
theorem dX1_form_6 : decode cX1_form 6 = .ok (.iload_n 3, 1) := by decide +kernel
theorem dX1_form_7 : decode cX1_form 7 = .ok (.invokestatic 25, 3) := by decide +kernel
theorem dX1_form_10 : decode cX1_form 10 = .ok (.invokestatic 31, 3) := by decide +kernel
theorem dX1_form_13 : decode cX1_form 13 = .ok (.istore 4, 2) := by decide +kernel
theorem dX1_form_15 : decode cX1_form 15 = .ok (.iload_n 1, 1) := by decide +kernel
theorem dX1_form_16 : decode cX1_form 16 = .ok (.i2l, 1) := by decide +kernel
theorem dX1_form_17 : decode cX1_form 17 = .ok (.lstore 5, 2) := by decide +kernel
theorem dX1_form_19 : decode cX1_form 19 = .ok (.iload_n 2, 1) := by decide +kernel
theorem dX1_form_20 : decode cX1_form 20 = .ok (.i2l, 1) := by decide +kernel
theorem dX1_form_21 : decode cX1_form 21 = .ok (.lstore 7, 2) := by decide +kernel
theorem dX1_form_23 : decode cX1_form 23 = .ok (.lconst 0, 1) := by decide +kernel
theorem dX1_form_24 : decode cX1_form 24 = .ok (.lstore 9, 2) := by decide +kernel
theorem dX1_form_26 : decode cX1_form 26 = .ok (.iconst 0, 1) := by decide +kernel
theorem dX1_form_27 : decode cX1_form 27 = .ok (.istore 11, 2) := by decide +kernel
theorem dX1_form_29 : decode cX1_form 29 = .ok (.aload_n 0, 1) := by decide +kernel
theorem dX1_form_30 : decode cX1_form 30 = .ok (.iconst 0, 1) := by decide +kernel
theorem dX1_form_31 : decode cX1_form 31 = .ok (.putfield 15, 3) := by decide +kernel
theorem dX1_form_34 : decode cX1_form 34 = .ok (.aload_n 0, 1) := by decide +kernel
theorem dX1_form_35 : decode cX1_form 35 = .ok (.iconst 0, 1) := by decide +kernel
theorem dX1_form_36 : decode cX1_form 36 = .ok (.putfield 18, 3) := by decide +kernel
theorem dX1_form_39 : decode cX1_form 39 = .ok (.iconst 0, 1) := by decide +kernel
theorem dX1_form_40 : decode cX1_form 40 = .ok (.istore 12, 2) := by decide +kernel
theorem dX1_form_42 : decode cX1_form 42 = .ok (.iload 12, 2) := by decide +kernel
theorem dX1_form_44 : decode cX1_form 44 = .ok (.iload 4, 2) := by decide +kernel
theorem dX1_form_46 : decode cX1_form 46 = .ok (.if_icmp .ge 133, 3) := by decide +kernel
theorem dX1_form_49 : decode cX1_form 49 = .ok (.iload 12, 2) := by decide +kernel
theorem dX1_form_51 : decode cX1_form 51 = .ok (.bipush 30, 2) := by decide +kernel
theorem dX1_form_53 : decode cX1_form 53 = .ok (.if_icmp .ge 126, 3) := by decide +kernel
theorem dX1_form_56 : decode cX1_form 56 = .ok (.lload 5, 2) := by decide +kernel
theorem dX1_form_58 : decode cX1_form 58 = .ok (.iload_n 3, 1) := by decide +kernel
theorem dX1_form_59 : decode cX1_form 59 = .ok (.i2l, 1) := by decide +kernel
theorem dX1_form_60 : decode cX1_form 60 = .ok (.invokestatic 36, 3) := by decide +kernel
theorem dX1_form_63 : decode cX1_form 63 = .ok (.lload 7, 2) := by decide +kernel
theorem dX1_form_65 : decode cX1_form 65 = .ok (.iload_n 3, 1) := by decide +kernel
theorem dX1_form_66 : decode cX1_form 66 = .ok (.i2l, 1) := by decide +kernel
theorem dX1_form_67 : decode cX1_form 67 = .ok (.invokestatic 36, 3) := by decide +kernel
theorem dX1_form_70 : decode cX1_form 70 = .ok (.ladd, 1) := by decide +kernel
theorem dX1_form_71 : decode cX1_form 71 = .ok (.lload 9, 2) := by decide +kernel
theorem dX1_form_73 : decode cX1_form 73 = .ok (.ladd, 1) := by decide +kernel
theorem dX1_form_74 : decode cX1_form 74 = .ok (.lstore 13, 2) := by decide +kernel
theorem dX1_form_76 : decode cX1_form 76 = .ok (.lload 13, 2) := by decide +kernel
theorem dX1_form_78 : decode cX1_form 78 = .ok (.iload_n 3, 1) := by decide +kernel
theorem dX1_form_79 : decode cX1_form 79 = .ok (.i2l, 1) := by decide +kernel
theorem dX1_form_80 : decode cX1_form 80 = .ok (.lcmp, 1) := by decide +kernel
theorem dX1_form_81 : decode cX1_form 81 = .ok (.ifCond .lt 7, 3) := by decide +kernel
theorem dX1_form_84 : decode cX1_form 84 = .ok (.lconst 1, 1) := by decide +kernel
theorem dX1_form_85 : decode cX1_form 85 = .ok (.goto 4, 3) := by decide +kernel
theorem dX1_form_88 : decode cX1_form 88 = .ok (.lconst 0, 1) := by decide +kernel
theorem dX1_form_89 : decode cX1_form 89 = .ok (.lstore 9, 2) := by decide +kernel
theorem dX1_form_91 : decode cX1_form 91 = .ok (.lload 9, 2) := by decide +kernel
theorem dX1_form_93 : decode cX1_form 93 = .ok (.lconst 1, 1) := by decide +kernel
theorem dX1_form_94 : decode cX1_form 94 = .ok (.lcmp, 1) := by decide +kernel
theorem dX1_form_95 : decode cX1_form 95 = .ok (.ifCond .ne 10, 3) := by decide +kernel
theorem dX1_form_98 : decode cX1_form 98 = .ok (.iload 11, 2) := by decide +kernel
theorem dX1_form_100 : decode cX1_form 100 = .ok (.iconst 1, 1) := by decide +kernel
theorem dX1_form_101 : decode cX1_form 101 = .ok (.iadd, 1) := by decide +kernel
theorem dX1_form_102 : decode cX1_form 102 = .ok (.goto 4, 3) := by decide +kernel
theorem dX1_form_105 : decode cX1_form 105 = .ok (.iconst 0, 1) := by decide +kernel
theorem dX1_form_106 : decode cX1_form 106 = .ok (.istore 11, 2) := by decide +kernel
theorem dX1_form_108 : decode cX1_form 108 = .ok (.aload_n 0, 1) := by decide +kernel
theorem dX1_form_109 : decode cX1_form 109 = .ok (.dup, 1) := by decide +kernel
theorem dX1_form_110 : decode cX1_form 110 = .ok (.getfield 15, 3) := by decide +kernel
theorem dX1_form_113 : decode cX1_form 113 = .ok (.iload 11, 2) := by decide +kernel
theorem dX1_form_115 : decode cX1_form 115 = .ok (.ifCond .le 7, 3) := by decide +kernel
theorem dX1_form_118 : decode cX1_form 118 = .ok (.iconst 1, 1) := by decide +kernel
theorem dX1_form_119 : decode cX1_form 119 = .ok (.goto 4, 3) := by decide +kernel
theorem dX1_form_122 : decode cX1_form 122 = .ok (.iconst 0, 1) := by decide +kernel
theorem dX1_form_123 : decode cX1_form 123 = .ok (.iadd, 1) := by decide +kernel
theorem dX1_form_124 : decode cX1_form 124 = .ok (.putfield 15, 3) := by decide +kernel
theorem dX1_form_127 : decode cX1_form 127 = .ok (.aload_n 0, 1) := by decide +kernel
theorem dX1_form_128 : decode cX1_form 128 = .ok (.aload_n 0, 1) := by decide +kernel
theorem dX1_form_129 : decode cX1_form 129 = .ok (.getfield 18, 3) := by decide +kernel
theorem dX1_form_132 : decode cX1_form 132 = .ok (.iload 11, 2) := by decide +kernel
theorem dX1_form_134 : decode cX1_form 134 = .ok (.invokestatic 31, 3) := by decide +kernel
theorem dX1_form_137 : decode cX1_form 137 = .ok (.putfield 18, 3) := by decide +kernel
theorem dX1_form_140 : decode cX1_form 140 = .ok (.aload_n 0, 1) := by decide +kernel
theorem dX1_form_141 : decode cX1_form 141 = .ok (.getfield 21, 3) := by decide +kernel
theorem dX1_form_144 : decode cX1_form 144 = .ok (.iload 12, 2) := by decide +kernel
theorem dX1_form_146 : decode cX1_form 146 = .ok (.lload 13, 2) := by decide +kernel
theorem dX1_form_148 : decode cX1_form 148 = .ok (.iload_n 3, 1) := by decide +kernel
theorem dX1_form_149 : decode cX1_form 149 = .ok (.i2l, 1) := by decide +kernel
theorem dX1_form_150 : decode cX1_form 150 = .ok (.invokestatic 36, 3) := by decide +kernel
theorem dX1_form_153 : decode cX1_form 153 = .ok (.l2i, 1) := by decide +kernel
theorem dX1_form_154 : decode cX1_form 154 = .ok (.iastore, 1) := by decide +kernel
theorem dX1_form_155 : decode cX1_form 155 = .ok (.lload 5, 2) := by decide +kernel
theorem dX1_form_157 : decode cX1_form 157 = .ok (.iload_n 3, 1) := by decide +kernel
theorem dX1_form_158 : decode cX1_form 158 = .ok (.i2l, 1) := by decide +kernel
theorem dX1_form_159 : decode cX1_form 159 = .ok (.invokestatic 42, 3) := by decide +kernel
theorem dX1_form_162 : decode cX1_form 162 = .ok (.lstore 5, 2) := by decide +kernel
theorem dX1_form_164 : decode cX1_form 164 = .ok (.lload 7, 2) := by decide +kernel
theorem dX1_form_166 : decode cX1_form 166 = .ok (.iload_n 3, 1) := by decide +kernel
theorem dX1_form_167 : decode cX1_form 167 = .ok (.i2l, 1) := by decide +kernel
theorem dX1_form_168 : decode cX1_form 168 = .ok (.invokestatic 42, 3) := by decide +kernel
theorem dX1_form_171 : decode cX1_form 171 = .ok (.lstore 7, 2) := by decide +kernel
theorem dX1_form_173 : decode cX1_form 173 = .ok (.iinc 12 1, 3) := by decide +kernel
theorem dX1_form_176 : decode cX1_form 176 = .ok (.goto (-134), 3) := by decide +kernel
theorem dX1_form_179 : decode cX1_form 179 = .ok (.aload_n 0, 1) := by decide +kernel
theorem dX1_form_180 : decode cX1_form 180 = .ok (.iload 4, 2) := by decide +kernel
theorem dX1_form_182 : decode cX1_form 182 = .ok (.putfield 9, 3) := by decide +kernel
theorem dX1_form_185 : decode cX1_form 185 = .ok (.lload 9, 2) := by decide +kernel
theorem dX1_form_187 : decode cX1_form 187 = .ok (.lconst 1, 1) := by decide +kernel
theorem dX1_form_188 : decode cX1_form 188 = .ok (.lcmp, 1) := by decide +kernel
theorem dX1_form_189 : decode cX1_form 189 = .ok (.ifCond .ne 29, 3) := by decide +kernel
theorem dX1_form_192 : decode cX1_form 192 = .ok (.iload 4, 2) := by decide +kernel
theorem dX1_form_194 : decode cX1_form 194 = .ok (.aload_n 0, 1) := by decide +kernel
theorem dX1_form_195 : decode cX1_form 195 = .ok (.getfield 21, 3) := by decide +kernel
theorem dX1_form_198 : decode cX1_form 198 = .ok (.arraylength, 1) := by decide +kernel
theorem dX1_form_199 : decode cX1_form 199 = .ok (.if_icmp .ge 19, 3) := by decide +kernel
theorem dX1_form_202 : decode cX1_form 202 = .ok (.aload_n 0, 1) := by decide +kernel
theorem dX1_form_203 : decode cX1_form 203 = .ok (.getfield 21, 3) := by decide +kernel
theorem dX1_form_206 : decode cX1_form 206 = .ok (.iload 4, 2) := by decide +kernel
theorem dX1_form_208 : decode cX1_form 208 = .ok (.iconst 1, 1) := by decide +kernel
theorem dX1_form_209 : decode cX1_form 209 = .ok (.iastore, 1) := by decide +kernel
theorem dX1_form_210 : decode cX1_form 210 = .ok (.aload_n 0, 1) := by decide +kernel
theorem dX1_form_211 : decode cX1_form 211 = .ok (.iload 4, 2) := by decide +kernel
theorem dX1_form_213 : decode cX1_form 213 = .ok (.iconst 1, 1) := by decide +kernel
theorem dX1_form_214 : decode cX1_form 214 = .ok (.iadd, 1) := by decide +kernel
theorem dX1_form_215 : decode cX1_form 215 = .ok (.putfield 9, 3) := by decide +kernel
theorem dX1_form_218 : decode cX1_form 218 = .ok (.return_, 1) := by decide +kernel
theorem dX1_digitAt_0 : decode cX1_digitAt 0 = .ok (.iload_n 1, 1) := by decide +kernel
theorem dX1_digitAt_1 : decode cX1_digitAt 1 = .ok (.ifCond .lt 21, 3) := by decide +kernel
theorem dX1_digitAt_4 : decode cX1_digitAt 4 = .ok (.iload_n 1, 1) := by decide +kernel
theorem dX1_digitAt_5 : decode cX1_digitAt 5 = .ok (.aload_n 0, 1) := by decide +kernel
theorem dX1_digitAt_6 : decode cX1_digitAt 6 = .ok (.getfield 21, 3) := by decide +kernel
theorem dX1_digitAt_9 : decode cX1_digitAt 9 = .ok (.arraylength, 1) := by decide +kernel
theorem dX1_digitAt_10 : decode cX1_digitAt 10 = .ok (.if_icmp .ge 12, 3) := by decide +kernel
theorem dX1_digitAt_13 : decode cX1_digitAt 13 = .ok (.aload_n 0, 1) := by decide +kernel
theorem dX1_digitAt_14 : decode cX1_digitAt 14 = .ok (.getfield 21, 3) := by decide +kernel
theorem dX1_digitAt_17 : decode cX1_digitAt 17 = .ok (.iload_n 1, 1) := by decide +kernel
theorem dX1_digitAt_18 : decode cX1_digitAt 18 = .ok (.iaload, 1) := by decide +kernel
theorem dX1_digitAt_19 : decode cX1_digitAt 19 = .ok (.goto 4, 3) := by decide +kernel
theorem dX1_digitAt_22 : decode cX1_digitAt 22 = .ok (.iconst 0, 1) := by decide +kernel
theorem dX1_digitAt_23 : decode cX1_digitAt 23 = .ok (.ireturn, 1) := by decide +kernel
theorem dX1_total_0 : decode cX1_total 0 = .ok (.lconst 0, 1) := by decide +kernel
theorem dX1_total_1 : decode cX1_total 1 = .ok (.lstore_n 2, 1) := by decide +kernel
theorem dX1_total_2 : decode cX1_total 2 = .ok (.aload_n 0, 1) := by decide +kernel
theorem dX1_total_3 : decode cX1_total 3 = .ok (.getfield 9, 3) := by decide +kernel
theorem dX1_total_6 : decode cX1_total 6 = .ok (.iconst 1, 1) := by decide +kernel
theorem dX1_total_7 : decode cX1_total 7 = .ok (.isub, 1) := by decide +kernel
theorem dX1_total_8 : decode cX1_total 8 = .ok (.istore 4, 2) := by decide +kernel
theorem dX1_total_10 : decode cX1_total 10 = .ok (.iload 4, 2) := by decide +kernel
theorem dX1_total_12 : decode cX1_total 12 = .ok (.ifCond .lt 22, 3) := by decide +kernel
theorem dX1_total_15 : decode cX1_total 15 = .ok (.lload_n 2, 1) := by decide +kernel
theorem dX1_total_16 : decode cX1_total 16 = .ok (.iload_n 1, 1) := by decide +kernel
theorem dX1_total_17 : decode cX1_total 17 = .ok (.i2l, 1) := by decide +kernel
theorem dX1_total_18 : decode cX1_total 18 = .ok (.lmul, 1) := by decide +kernel
theorem dX1_total_19 : decode cX1_total 19 = .ok (.aload_n 0, 1) := by decide +kernel
theorem dX1_total_20 : decode cX1_total 20 = .ok (.iload 4, 2) := by decide +kernel
theorem dX1_total_22 : decode cX1_total 22 = .ok (.invokevirtual 45, 3) := by decide +kernel
theorem dX1_total_25 : decode cX1_total 25 = .ok (.i2l, 1) := by decide +kernel
theorem dX1_total_26 : decode cX1_total 26 = .ok (.ladd, 1) := by decide +kernel
theorem dX1_total_27 : decode cX1_total 27 = .ok (.lstore_n 2, 1) := by decide +kernel
theorem dX1_total_28 : decode cX1_total 28 = .ok (.iinc 4 (-1), 3) := by decide +kernel
theorem dX1_total_31 : decode cX1_total 31 = .ok (.goto (-21), 3) := by decide +kernel
theorem dX1_total_34 : decode cX1_total 34 = .ok (.lload_n 2, 1) := by decide +kernel
theorem dX1_total_35 : decode cX1_total 35 = .ok (.lreturn, 1) := by decide +kernel
theorem dX2_init_0 : decode cX2_init 0 = .ok (.aload_n 0, 1) := by decide +kernel
theorem dX2_init_1 : decode cX2_init 1 = .ok (.invokespecial 3, 3) := by decide +kernel
theorem dX2_init_4 : decode cX2_init 4 = .ok (.aload_n 0, 1) := by decide +kernel
theorem dX2_init_5 : decode cX2_init 5 = .ok (.iconst 0, 1) := by decide +kernel
theorem dX2_init_6 : decode cX2_init 6 = .ok (.putfield 9, 3) := by decide +kernel
theorem dX2_init_9 : decode cX2_init 9 = .ok (.aload_n 0, 1) := by decide +kernel
theorem dX2_init_10 : decode cX2_init 10 = .ok (.bipush 60, 2) := by decide +kernel
theorem dX2_init_12 : decode cX2_init 12 = .ok (.newarray .int, 2) := by decide +kernel
theorem dX2_init_14 : decode cX2_init 14 = .ok (.putfield 15, 3) := by decide +kernel
theorem dX2_init_17 : decode cX2_init 17 = .ok (.aload_n 0, 1) := by decide +kernel
theorem dX2_init_18 : decode cX2_init 18 = .ok (.new 19, 3) := by decide +kernel
theorem dX2_init_21 : decode cX2_init 21 = .ok (.dup, 1) := by decide +kernel
theorem dX2_init_22 : decode cX2_init 22 = .ok (.invokespecial 21, 3) := by decide +kernel
theorem dX2_init_25 : decode cX2_init 25 = .ok (.putfield 22, 3) := by decide +kernel
theorem dX2_init_28 : decode cX2_init 28 = .ok (.return_, 1) := by decide +kernel
theorem dX3_init_0 : decode cX3_init 0 = .ok (.aload_n 0, 1) := by decide +kernel
theorem dX3_init_1 : decode cX3_init 1 = .ok (.invokespecial 3, 3) := by decide +kernel
theorem dX3_init_4 : decode cX3_init 4 = .ok (.aload_n 0, 1) := by decide +kernel
theorem dX3_init_5 : decode cX3_init 5 = .ok (.iconst 0, 1) := by decide +kernel
theorem dX3_init_6 : decode cX3_init 6 = .ok (.putfield 9, 3) := by decide +kernel
theorem dX3_init_9 : decode cX3_init 9 = .ok (.aload_n 0, 1) := by decide +kernel
theorem dX3_init_10 : decode cX3_init 10 = .ok (.iconst 0, 1) := by decide +kernel
theorem dX3_init_11 : decode cX3_init 11 = .ok (.putfield 15, 3) := by decide +kernel
theorem dX3_init_14 : decode cX3_init 14 = .ok (.aload_n 0, 1) := by decide +kernel
theorem dX3_init_15 : decode cX3_init 15 = .ok (.bipush 6, 2) := by decide +kernel
theorem dX3_init_17 : decode cX3_init 17 = .ok (.anewarray 18, 3) := by decide +kernel
theorem dX3_init_20 : decode cX3_init 20 = .ok (.putfield 20, 3) := by decide +kernel
theorem dX3_init_23 : decode cX3_init 23 = .ok (.iconst 0, 1) := by decide +kernel
theorem dX3_init_24 : decode cX3_init 24 = .ok (.istore_n 1, 1) := by decide +kernel
theorem dX3_init_25 : decode cX3_init 25 = .ok (.iload_n 1, 1) := by decide +kernel
theorem dX3_init_26 : decode cX3_init 26 = .ok (.bipush 6, 2) := by decide +kernel
theorem dX3_init_28 : decode cX3_init 28 = .ok (.if_icmp .ge 22, 3) := by decide +kernel
theorem dX3_init_31 : decode cX3_init 31 = .ok (.aload_n 0, 1) := by decide +kernel
theorem dX3_init_32 : decode cX3_init 32 = .ok (.getfield 20, 3) := by decide +kernel
theorem dX3_init_35 : decode cX3_init 35 = .ok (.iload_n 1, 1) := by decide +kernel
theorem dX3_init_36 : decode cX3_init 36 = .ok (.new 18, 3) := by decide +kernel
theorem dX3_init_39 : decode cX3_init 39 = .ok (.dup, 1) := by decide +kernel
theorem dX3_init_40 : decode cX3_init 40 = .ok (.invokespecial 24, 3) := by decide +kernel
theorem dX3_init_43 : decode cX3_init 43 = .ok (.aastore, 1) := by decide +kernel
theorem dX3_init_44 : decode cX3_init 44 = .ok (.iinc 1 1, 3) := by decide +kernel
theorem dX3_init_47 : decode cX3_init 47 = .ok (.goto (-22), 3) := by decide +kernel
theorem dX3_init_50 : decode cX3_init 50 = .ok (.return_, 1) := by decide +kernel
theorem dX3_push_0 : decode cX3_push 0 = .ok (.aload_n 0, 1) := by decide +kernel
theorem dX3_push_1 : decode cX3_push 1 = .ok (.getfield 15, 3) := by decide +kernel
theorem dX3_push_4 : decode cX3_push 4 = .ok (.ifCond .lt 37, 3) := by decide +kernel
theorem dX3_push_7 : decode cX3_push 7 = .ok (.aload_n 0, 1) := by decide +kernel
theorem dX3_push_8 : decode cX3_push 8 = .ok (.getfield 15, 3) := by decide +kernel
theorem dX3_push_11 : decode cX3_push 11 = .ok (.bipush 6, 2) := by decide +kernel
theorem dX3_push_13 : decode cX3_push 13 = .ok (.if_icmp .ge 28, 3) := by decide +kernel
theorem dX3_push_16 : decode cX3_push 16 = .ok (.aload_n 0, 1) := by decide +kernel
theorem dX3_push_17 : decode cX3_push 17 = .ok (.getfield 20, 3) := by decide +kernel
theorem dX3_push_20 : decode cX3_push 20 = .ok (.aload_n 0, 1) := by decide +kernel
theorem dX3_push_21 : decode cX3_push 21 = .ok (.getfield 15, 3) := by decide +kernel
theorem dX3_push_24 : decode cX3_push 24 = .ok (.aaload, 1) := by decide +kernel
theorem dX3_push_25 : decode cX3_push 25 = .ok (.ifnull 16, 3) := by decide +kernel
theorem dX3_push_28 : decode cX3_push 28 = .ok (.aload_n 0, 1) := by decide +kernel
theorem dX3_push_29 : decode cX3_push 29 = .ok (.getfield 20, 3) := by decide +kernel
theorem dX3_push_32 : decode cX3_push 32 = .ok (.aload_n 0, 1) := by decide +kernel
theorem dX3_push_33 : decode cX3_push 33 = .ok (.getfield 15, 3) := by decide +kernel
theorem dX3_push_36 : decode cX3_push 36 = .ok (.aaload, 1) := by decide +kernel
theorem dX3_push_37 : decode cX3_push 37 = .ok (.aload_n 1, 1) := by decide +kernel
theorem dX3_push_38 : decode cX3_push 38 = .ok (.invokevirtual 25, 3) := by decide +kernel
theorem dX3_push_41 : decode cX3_push 41 = .ok (.aload_n 0, 1) := by decide +kernel
theorem dX3_push_42 : decode cX3_push 42 = .ok (.aload_n 0, 1) := by decide +kernel
theorem dX3_push_43 : decode cX3_push 43 = .ok (.getfield 15, 3) := by decide +kernel
theorem dX3_push_46 : decode cX3_push 46 = .ok (.iconst 1, 1) := by decide +kernel
theorem dX3_push_47 : decode cX3_push 47 = .ok (.iadd, 1) := by decide +kernel
theorem dX3_push_48 : decode cX3_push 48 = .ok (.bipush 6, 2) := by decide +kernel
theorem dX3_push_50 : decode cX3_push 50 = .ok (.if_icmp .ge 12, 3) := by decide +kernel
theorem dX3_push_53 : decode cX3_push 53 = .ok (.aload_n 0, 1) := by decide +kernel
theorem dX3_push_54 : decode cX3_push 54 = .ok (.getfield 15, 3) := by decide +kernel
theorem dX3_push_57 : decode cX3_push 57 = .ok (.iconst 1, 1) := by decide +kernel
theorem dX3_push_58 : decode cX3_push 58 = .ok (.iadd, 1) := by decide +kernel
theorem dX3_push_59 : decode cX3_push 59 = .ok (.goto 4, 3) := by decide +kernel
theorem dX3_push_62 : decode cX3_push 62 = .ok (.iconst 0, 1) := by decide +kernel
theorem dX3_push_63 : decode cX3_push 63 = .ok (.putfield 15, 3) := by decide +kernel
theorem dX3_push_66 : decode cX3_push 66 = .ok (.aload_n 0, 1) := by decide +kernel
theorem dX3_push_67 : decode cX3_push 67 = .ok (.aload_n 0, 1) := by decide +kernel
theorem dX3_push_68 : decode cX3_push 68 = .ok (.getfield 9, 3) := by decide +kernel
theorem dX3_push_71 : decode cX3_push 71 = .ok (.iconst 1, 1) := by decide +kernel
theorem dX3_push_72 : decode cX3_push 72 = .ok (.iadd, 1) := by decide +kernel
theorem dX3_push_73 : decode cX3_push 73 = .ok (.bipush 6, 2) := by decide +kernel
theorem dX3_push_75 : decode cX3_push 75 = .ok (.invokestatic 29, 3) := by decide +kernel
theorem dX3_push_78 : decode cX3_push 78 = .ok (.putfield 9, 3) := by decide +kernel
theorem dX3_push_81 : decode cX3_push 81 = .ok (.return_, 1) := by decide +kernel
theorem dX3_pop_0 : decode cX3_pop 0 = .ok (.aload_n 0, 1) := by decide +kernel
theorem dX3_pop_1 : decode cX3_pop 1 = .ok (.aload_n 0, 1) := by decide +kernel
theorem dX3_pop_2 : decode cX3_pop 2 = .ok (.getfield 15, 3) := by decide +kernel
theorem dX3_pop_5 : decode cX3_pop 5 = .ok (.ifCond .le 12, 3) := by decide +kernel
theorem dX3_pop_8 : decode cX3_pop 8 = .ok (.aload_n 0, 1) := by decide +kernel
theorem dX3_pop_9 : decode cX3_pop 9 = .ok (.getfield 15, 3) := by decide +kernel
theorem dX3_pop_12 : decode cX3_pop 12 = .ok (.iconst 1, 1) := by decide +kernel
theorem dX3_pop_13 : decode cX3_pop 13 = .ok (.isub, 1) := by decide +kernel
theorem dX3_pop_14 : decode cX3_pop 14 = .ok (.goto 4, 3) := by decide +kernel
theorem dX3_pop_17 : decode cX3_pop 17 = .ok (.iconst 5, 1) := by decide +kernel
theorem dX3_pop_18 : decode cX3_pop 18 = .ok (.putfield 15, 3) := by decide +kernel
theorem dX3_pop_21 : decode cX3_pop 21 = .ok (.aload_n 0, 1) := by decide +kernel
theorem dX3_pop_22 : decode cX3_pop 22 = .ok (.aload_n 0, 1) := by decide +kernel
theorem dX3_pop_23 : decode cX3_pop 23 = .ok (.getfield 9, 3) := by decide +kernel
theorem dX3_pop_26 : decode cX3_pop 26 = .ok (.iconst 1, 1) := by decide +kernel
theorem dX3_pop_27 : decode cX3_pop 27 = .ok (.isub, 1) := by decide +kernel
theorem dX3_pop_28 : decode cX3_pop 28 = .ok (.iconst 0, 1) := by decide +kernel
theorem dX3_pop_29 : decode cX3_pop 29 = .ok (.invokestatic 35, 3) := by decide +kernel
theorem dX3_pop_32 : decode cX3_pop 32 = .ok (.putfield 9, 3) := by decide +kernel
theorem dX3_pop_35 : decode cX3_pop 35 = .ok (.aload_n 0, 1) := by decide +kernel
theorem dX3_pop_36 : decode cX3_pop 36 = .ok (.getfield 15, 3) := by decide +kernel
theorem dX3_pop_39 : decode cX3_pop 39 = .ok (.bipush 6, 2) := by decide +kernel
theorem dX3_pop_41 : decode cX3_pop 41 = .ok (.if_icmp .ge 28, 3) := by decide +kernel
theorem dX3_pop_44 : decode cX3_pop 44 = .ok (.aload_n 0, 1) := by decide +kernel
theorem dX3_pop_45 : decode cX3_pop 45 = .ok (.getfield 20, 3) := by decide +kernel
theorem dX3_pop_48 : decode cX3_pop 48 = .ok (.aload_n 0, 1) := by decide +kernel
theorem dX3_pop_49 : decode cX3_pop 49 = .ok (.getfield 15, 3) := by decide +kernel
theorem dX3_pop_52 : decode cX3_pop 52 = .ok (.aaload, 1) := by decide +kernel
theorem dX3_pop_53 : decode cX3_pop 53 = .ok (.ifnull 16, 3) := by decide +kernel
theorem dX3_pop_56 : decode cX3_pop 56 = .ok (.aload_n 1, 1) := by decide +kernel
theorem dX3_pop_57 : decode cX3_pop 57 = .ok (.aload_n 0, 1) := by decide +kernel
theorem dX3_pop_58 : decode cX3_pop 58 = .ok (.getfield 20, 3) := by decide +kernel
theorem dX3_pop_61 : decode cX3_pop 61 = .ok (.aload_n 0, 1) := by decide +kernel
theorem dX3_pop_62 : decode cX3_pop 62 = .ok (.getfield 15, 3) := by decide +kernel
theorem dX3_pop_65 : decode cX3_pop 65 = .ok (.aaload, 1) := by decide +kernel
theorem dX3_pop_66 : decode cX3_pop 66 = .ok (.invokevirtual 25, 3) := by decide +kernel
theorem dX3_pop_69 : decode cX3_pop 69 = .ok (.return_, 1) := by decide +kernel
theorem dX4_init_0 : decode cX4_init 0 = .ok (.aload_n 0, 1) := by decide +kernel
theorem dX4_init_1 : decode cX4_init 1 = .ok (.invokespecial 3, 3) := by decide +kernel
theorem dX4_init_4 : decode cX4_init 4 = .ok (.aload_n 0, 1) := by decide +kernel
theorem dX4_init_5 : decode cX4_init 5 = .ok (.iconst 0, 1) := by decide +kernel
theorem dX4_init_6 : decode cX4_init 6 = .ok (.putfield 9, 3) := by decide +kernel
theorem dX4_init_9 : decode cX4_init 9 = .ok (.aload_n 0, 1) := by decide +kernel
theorem dX4_init_10 : decode cX4_init 10 = .ok (.bipush 6, 2) := by decide +kernel
theorem dX4_init_12 : decode cX4_init 12 = .ok (.putfield 15, 3) := by decide +kernel
theorem dX4_init_15 : decode cX4_init 15 = .ok (.aload_n 0, 1) := by decide +kernel
theorem dX4_init_16 : decode cX4_init 16 = .ok (.iconst 0, 1) := by decide +kernel
theorem dX4_init_17 : decode cX4_init 17 = .ok (.putfield 19, 3) := by decide +kernel
theorem dX4_init_20 : decode cX4_init 20 = .ok (.aload_n 0, 1) := by decide +kernel
theorem dX4_init_21 : decode cX4_init 21 = .ok (.iconst 0, 1) := by decide +kernel
theorem dX4_init_22 : decode cX4_init 22 = .ok (.putfield 22, 3) := by decide +kernel
theorem dX4_init_25 : decode cX4_init 25 = .ok (.aload_n 0, 1) := by decide +kernel
theorem dX4_init_26 : decode cX4_init 26 = .ok (.lconst 0, 1) := by decide +kernel
theorem dX4_init_27 : decode cX4_init 27 = .ok (.putfield 25, 3) := by decide +kernel
theorem dX4_init_30 : decode cX4_init 30 = .ok (.aload_n 0, 1) := by decide +kernel
theorem dX4_init_31 : decode cX4_init 31 = .ok (.lconst 0, 1) := by decide +kernel
theorem dX4_init_32 : decode cX4_init 32 = .ok (.putfield 29, 3) := by decide +kernel
theorem dX4_init_35 : decode cX4_init 35 = .ok (.aload_n 0, 1) := by decide +kernel
theorem dX4_init_36 : decode cX4_init 36 = .ok (.lconst 1, 1) := by decide +kernel
theorem dX4_init_37 : decode cX4_init 37 = .ok (.putfield 32, 3) := by decide +kernel
theorem dX4_init_40 : decode cX4_init 40 = .ok (.aload_n 0, 1) := by decide +kernel
theorem dX4_init_41 : decode cX4_init 41 = .ok (.lconst 0, 1) := by decide +kernel
theorem dX4_init_42 : decode cX4_init 42 = .ok (.putfield 35, 3) := by decide +kernel
theorem dX4_init_45 : decode cX4_init 45 = .ok (.aload_n 0, 1) := by decide +kernel
theorem dX4_init_46 : decode cX4_init 46 = .ok (.lconst 1, 1) := by decide +kernel
theorem dX4_init_47 : decode cX4_init 47 = .ok (.putfield 38, 3) := by decide +kernel
theorem dX4_init_50 : decode cX4_init 50 = .ok (.return_, 1) := by decide +kernel
theorem dX5_quotient_0 : decode cX5_quotient 0 = .ok (.lload_n 2, 1) := by decide +kernel
theorem dX5_quotient_1 : decode cX5_quotient 1 = .ok (.lconst 1, 1) := by decide +kernel
theorem dX5_quotient_2 : decode cX5_quotient 2 = .ok (.lcmp, 1) := by decide +kernel
theorem dX5_quotient_3 : decode cX5_quotient 3 = .ok (.ifCond .ge 7, 3) := by decide +kernel
theorem dX5_quotient_6 : decode cX5_quotient 6 = .ok (.lconst 0, 1) := by decide +kernel
theorem dX5_quotient_7 : decode cX5_quotient 7 = .ok (.goto 6, 3) := by decide +kernel
theorem dX5_quotient_10 : decode cX5_quotient 10 = .ok (.lload_n 0, 1) := by decide +kernel
theorem dX5_quotient_11 : decode cX5_quotient 11 = .ok (.lload_n 2, 1) := by decide +kernel
theorem dX5_quotient_12 : decode cX5_quotient 12 = .ok (.ldiv, 1) := by decide +kernel
theorem dX5_quotient_13 : decode cX5_quotient 13 = .ok (.lreturn, 1) := by decide +kernel
theorem dX5_left_0 : decode cX5_left 0 = .ok (.lload_n 2, 1) := by decide +kernel
theorem dX5_left_1 : decode cX5_left 1 = .ok (.lconst 1, 1) := by decide +kernel
theorem dX5_left_2 : decode cX5_left 2 = .ok (.lcmp, 1) := by decide +kernel
theorem dX5_left_3 : decode cX5_left 3 = .ok (.ifCond .ge 7, 3) := by decide +kernel
theorem dX5_left_6 : decode cX5_left 6 = .ok (.lconst 0, 1) := by decide +kernel
theorem dX5_left_7 : decode cX5_left 7 = .ok (.goto 6, 3) := by decide +kernel
theorem dX5_left_10 : decode cX5_left 10 = .ok (.lload_n 0, 1) := by decide +kernel
theorem dX5_left_11 : decode cX5_left 11 = .ok (.lload_n 2, 1) := by decide +kernel
theorem dX5_left_12 : decode cX5_left 12 = .ok (.lrem, 1) := by decide +kernel
theorem dX5_left_13 : decode cX5_left 13 = .ok (.lreturn, 1) := by decide +kernel
theorem dX5_greatestCommon_0 : decode cX5_greatestCommon 0 = .ok (.lload_n 0, 1) := by decide +kernel
theorem dX5_greatestCommon_1 : decode cX5_greatestCommon 1 = .ok (.lstore 4, 2) := by decide +kernel
theorem dX5_greatestCommon_3 : decode cX5_greatestCommon 3 = .ok (.lload_n 2, 1) := by decide +kernel
theorem dX5_greatestCommon_4 : decode cX5_greatestCommon 4 = .ok (.lstore 6, 2) := by decide +kernel
theorem dX5_greatestCommon_6 : decode cX5_greatestCommon 6 = .ok (.iconst 0, 1) := by decide +kernel
theorem dX5_greatestCommon_7 : decode cX5_greatestCommon 7 = .ok (.istore 8, 2) := by decide +kernel
theorem dX5_greatestCommon_9 : decode cX5_greatestCommon 9 = .ok (.lload 6, 2) := by decide +kernel
theorem dX5_greatestCommon_11 : decode cX5_greatestCommon 11 = .ok (.lconst 0, 1) := by decide +kernel
theorem dX5_greatestCommon_12 : decode cX5_greatestCommon 12 = .ok (.lcmp, 1) := by decide +kernel
theorem dX5_greatestCommon_13 : decode cX5_greatestCommon 13 = .ok (.ifCond .eq 32, 3) := by decide +kernel
theorem dX5_greatestCommon_16 : decode cX5_greatestCommon 16 = .ok (.iload 8, 2) := by decide +kernel
theorem dX5_greatestCommon_18 : decode cX5_greatestCommon 18 = .ok (.sipush 200, 3) := by decide +kernel
theorem dX5_greatestCommon_21 : decode cX5_greatestCommon 21 = .ok (.if_icmp .ge 24, 3) := by decide +kernel
theorem dX5_greatestCommon_24 : decode cX5_greatestCommon 24 = .ok (.lload 4, 2) := by decide +kernel
theorem dX5_greatestCommon_26 : decode cX5_greatestCommon 26 = .ok (.lload 6, 2) := by decide +kernel
theorem dX5_greatestCommon_28 : decode cX5_greatestCommon 28 = .ok (.lrem, 1) := by decide +kernel
theorem dX5_greatestCommon_29 : decode cX5_greatestCommon 29 = .ok (.lstore 9, 2) := by decide +kernel
theorem dX5_greatestCommon_31 : decode cX5_greatestCommon 31 = .ok (.lload 6, 2) := by decide +kernel
theorem dX5_greatestCommon_33 : decode cX5_greatestCommon 33 = .ok (.lstore 4, 2) := by decide +kernel
theorem dX5_greatestCommon_35 : decode cX5_greatestCommon 35 = .ok (.lload 9, 2) := by decide +kernel
theorem dX5_greatestCommon_37 : decode cX5_greatestCommon 37 = .ok (.lstore 6, 2) := by decide +kernel
theorem dX5_greatestCommon_39 : decode cX5_greatestCommon 39 = .ok (.iinc 8 1, 3) := by decide +kernel
theorem dX5_greatestCommon_42 : decode cX5_greatestCommon 42 = .ok (.goto (-33), 3) := by decide +kernel
theorem dX5_greatestCommon_45 : decode cX5_greatestCommon 45 = .ok (.lload 4, 2) := by decide +kernel
theorem dX5_greatestCommon_47 : decode cX5_greatestCommon 47 = .ok (.lreturn, 1) := by decide +kernel
theorem dX5_power_0 : decode cX5_power 0 = .ok (.lconst 1, 1) := by decide +kernel
theorem dX5_power_1 : decode cX5_power 1 = .ok (.lstore_n 3, 1) := by decide +kernel
theorem dX5_power_2 : decode cX5_power 2 = .ok (.iconst 0, 1) := by decide +kernel
theorem dX5_power_3 : decode cX5_power 3 = .ok (.istore 5, 2) := by decide +kernel
theorem dX5_power_5 : decode cX5_power 5 = .ok (.iload 5, 2) := by decide +kernel
theorem dX5_power_7 : decode cX5_power 7 = .ok (.iload_n 2, 1) := by decide +kernel
theorem dX5_power_8 : decode cX5_power 8 = .ok (.if_icmp .ge 20, 3) := by decide +kernel
theorem dX5_power_11 : decode cX5_power 11 = .ok (.iload 5, 2) := by decide +kernel
theorem dX5_power_13 : decode cX5_power 13 = .ok (.bipush 100, 2) := by decide +kernel
theorem dX5_power_15 : decode cX5_power 15 = .ok (.if_icmp .ge 13, 3) := by decide +kernel
theorem dX5_power_18 : decode cX5_power 18 = .ok (.lload_n 3, 1) := by decide +kernel
theorem dX5_power_19 : decode cX5_power 19 = .ok (.lload_n 0, 1) := by decide +kernel
theorem dX5_power_20 : decode cX5_power 20 = .ok (.lmul, 1) := by decide +kernel
theorem dX5_power_21 : decode cX5_power 21 = .ok (.lstore_n 3, 1) := by decide +kernel
theorem dX5_power_22 : decode cX5_power 22 = .ok (.iinc 5 1, 3) := by decide +kernel
theorem dX5_power_25 : decode cX5_power 25 = .ok (.goto (-20), 3) := by decide +kernel
theorem dX5_power_28 : decode cX5_power 28 = .ok (.lload_n 3, 1) := by decide +kernel
theorem dX5_power_29 : decode cX5_power 29 = .ok (.lreturn, 1) := by decide +kernel
theorem dX6_init_0 : decode cX6_init 0 = .ok (.aload_n 0, 1) := by decide +kernel
theorem dX6_init_1 : decode cX6_init 1 = .ok (.invokespecial 3, 3) := by decide +kernel
theorem dX6_init_4 : decode cX6_init 4 = .ok (.aload_n 0, 1) := by decide +kernel
theorem dX6_init_5 : decode cX6_init 5 = .ok (.lconst 0, 1) := by decide +kernel
theorem dX6_init_6 : decode cX6_init 6 = .ok (.putfield 9, 3) := by decide +kernel
theorem dX6_init_9 : decode cX6_init 9 = .ok (.aload_n 0, 1) := by decide +kernel
theorem dX6_init_10 : decode cX6_init 10 = .ok (.lconst 1, 1) := by decide +kernel
theorem dX6_init_11 : decode cX6_init 11 = .ok (.putfield 15, 3) := by decide +kernel
theorem dX6_init_14 : decode cX6_init 14 = .ok (.return_, 1) := by decide +kernel
theorem dX6_put_0 : decode cX6_put 0 = .ok (.lload_n 1, 1) := by decide +kernel
theorem dX6_put_1 : decode cX6_put 1 = .ok (.invokestatic 18, 3) := by decide +kernel
theorem dX6_put_4 : decode cX6_put 4 = .ok (.lload_n 3, 1) := by decide +kernel
theorem dX6_put_5 : decode cX6_put 5 = .ok (.invokestatic 24, 3) := by decide +kernel
theorem dX6_put_8 : decode cX6_put 8 = .ok (.lstore 5, 2) := by decide +kernel
theorem dX6_put_10 : decode cX6_put 10 = .ok (.aload_n 0, 1) := by decide +kernel
theorem dX6_put_11 : decode cX6_put 11 = .ok (.lload_n 1, 1) := by decide +kernel
theorem dX6_put_12 : decode cX6_put 12 = .ok (.lload 5, 2) := by decide +kernel
theorem dX6_put_14 : decode cX6_put 14 = .ok (.invokestatic 30, 3) := by decide +kernel
theorem dX6_put_17 : decode cX6_put 17 = .ok (.putfield 9, 3) := by decide +kernel
theorem dX6_put_20 : decode cX6_put 20 = .ok (.aload_n 0, 1) := by decide +kernel
theorem dX6_put_21 : decode cX6_put 21 = .ok (.lload_n 3, 1) := by decide +kernel
theorem dX6_put_22 : decode cX6_put 22 = .ok (.lload 5, 2) := by decide +kernel
theorem dX6_put_24 : decode cX6_put 24 = .ok (.invokestatic 30, 3) := by decide +kernel
theorem dX6_put_27 : decode cX6_put 27 = .ok (.putfield 15, 3) := by decide +kernel
theorem dX6_put_30 : decode cX6_put 30 = .ok (.return_, 1) := by decide +kernel
theorem dX6_reasonAgainst_0 : decode cX6_reasonAgainst 0 = .ok (.aload_n 0, 1) := by decide +kernel
theorem dX6_reasonAgainst_1 : decode cX6_reasonAgainst 1 = .ok (.getfield 9, 3) := by decide +kernel
theorem dX6_reasonAgainst_4 : decode cX6_reasonAgainst 4 = .ok (.lconst 0, 1) := by decide +kernel
theorem dX6_reasonAgainst_5 : decode cX6_reasonAgainst 5 = .ok (.lcmp, 1) := by decide +kernel
theorem dX6_reasonAgainst_6 : decode cX6_reasonAgainst 6 = .ok (.ifCond .ge 5, 3) := by decide +kernel
theorem dX6_reasonAgainst_9 : decode cX6_reasonAgainst 9 = .ok (.iconst 3, 1) := by decide +kernel
theorem dX6_reasonAgainst_10 : decode cX6_reasonAgainst 10 = .ok (.ireturn, 1) := by decide +kernel
theorem dX6_reasonAgainst_11 : decode cX6_reasonAgainst 11 = .ok (.aload_n 0, 1) := by decide +kernel
theorem dX6_reasonAgainst_12 : decode cX6_reasonAgainst 12 = .ok (.getfield 9, 3) := by decide +kernel
theorem dX6_reasonAgainst_15 : decode cX6_reasonAgainst 15 = .ok (.ldc2_w 33, 3) := by decide +kernel
theorem dX6_reasonAgainst_18 : decode cX6_reasonAgainst 18 = .ok (.lcmp, 1) := by decide +kernel
theorem dX6_reasonAgainst_19 : decode cX6_reasonAgainst 19 = .ok (.ifCond .gt 14, 3) := by decide +kernel
theorem dX6_reasonAgainst_22 : decode cX6_reasonAgainst 22 = .ok (.aload_n 0, 1) := by decide +kernel
theorem dX6_reasonAgainst_23 : decode cX6_reasonAgainst 23 = .ok (.getfield 15, 3) := by decide +kernel
theorem dX6_reasonAgainst_26 : decode cX6_reasonAgainst 26 = .ok (.ldc2_w 35, 3) := by decide +kernel
theorem dX6_reasonAgainst_29 : decode cX6_reasonAgainst 29 = .ok (.lcmp, 1) := by decide +kernel
theorem dX6_reasonAgainst_30 : decode cX6_reasonAgainst 30 = .ok (.ifCond .le 7, 3) := by decide +kernel
theorem dX6_reasonAgainst_33 : decode cX6_reasonAgainst 33 = .ok (.iconst 2, 1) := by decide +kernel
theorem dX6_reasonAgainst_34 : decode cX6_reasonAgainst 34 = .ok (.goto 4, 3) := by decide +kernel
theorem dX6_reasonAgainst_37 : decode cX6_reasonAgainst 37 = .ok (.iconst 0, 1) := by decide +kernel
theorem dX6_reasonAgainst_38 : decode cX6_reasonAgainst 38 = .ok (.ireturn, 1) := by decide +kernel
theorem dX7_init_0 : decode cX7_init 0 = .ok (.aload_n 0, 1) := by decide +kernel
theorem dX7_init_1 : decode cX7_init 1 = .ok (.invokespecial 3, 3) := by decide +kernel
theorem dX7_init_4 : decode cX7_init 4 = .ok (.aload_n 0, 1) := by decide +kernel
theorem dX7_init_5 : decode cX7_init 5 = .ok (.bipush 6, 2) := by decide +kernel
theorem dX7_init_7 : decode cX7_init 7 = .ok (.putfield 9, 3) := by decide +kernel
theorem dX7_init_10 : decode cX7_init 10 = .ok (.aload_n 0, 1) := by decide +kernel
theorem dX7_init_11 : decode cX7_init 11 = .ok (.iconst 0, 1) := by decide +kernel
theorem dX7_init_12 : decode cX7_init 12 = .ok (.putfield 15, 3) := by decide +kernel
theorem dX7_init_15 : decode cX7_init 15 = .ok (.aload_n 0, 1) := by decide +kernel
theorem dX7_init_16 : decode cX7_init 16 = .ok (.iconst 0, 1) := by decide +kernel
theorem dX7_init_17 : decode cX7_init 17 = .ok (.putfield 18, 3) := by decide +kernel
theorem dX7_init_20 : decode cX7_init 20 = .ok (.aload_n 0, 1) := by decide +kernel
theorem dX7_init_21 : decode cX7_init 21 = .ok (.bipush 6, 2) := by decide +kernel
theorem dX7_init_23 : decode cX7_init 23 = .ok (.newarray .int, 2) := by decide +kernel
theorem dX7_init_25 : decode cX7_init 25 = .ok (.putfield 21, 3) := by decide +kernel
theorem dX7_init_28 : decode cX7_init 28 = .ok (.aload_n 0, 1) := by decide +kernel
theorem dX7_init_29 : decode cX7_init 29 = .ok (.bipush 6, 2) := by decide +kernel
theorem dX7_init_31 : decode cX7_init 31 = .ok (.newarray .int, 2) := by decide +kernel
theorem dX7_init_33 : decode cX7_init 33 = .ok (.putfield 25, 3) := by decide +kernel
theorem dX7_init_36 : decode cX7_init 36 = .ok (.iconst 0, 1) := by decide +kernel
theorem dX7_init_37 : decode cX7_init 37 = .ok (.istore_n 1, 1) := by decide +kernel
theorem dX7_init_38 : decode cX7_init 38 = .ok (.iload_n 1, 1) := by decide +kernel
theorem dX7_init_39 : decode cX7_init 39 = .ok (.bipush 6, 2) := by decide +kernel
theorem dX7_init_41 : decode cX7_init 41 = .ok (.if_icmp .ge 16, 3) := by decide +kernel
theorem dX7_init_44 : decode cX7_init 44 = .ok (.aload_n 0, 1) := by decide +kernel
theorem dX7_init_45 : decode cX7_init 45 = .ok (.getfield 25, 3) := by decide +kernel
theorem dX7_init_48 : decode cX7_init 48 = .ok (.iload_n 1, 1) := by decide +kernel
theorem dX7_init_49 : decode cX7_init 49 = .ok (.iconst 1, 1) := by decide +kernel
theorem dX7_init_50 : decode cX7_init 50 = .ok (.iastore, 1) := by decide +kernel
theorem dX7_init_51 : decode cX7_init 51 = .ok (.iinc 1 1, 3) := by decide +kernel
theorem dX7_init_54 : decode cX7_init 54 = .ok (.goto (-16), 3) := by decide +kernel
theorem dX7_init_57 : decode cX7_init 57 = .ok (.return_, 1) := by decide +kernel
theorem dX7_isAccount_0 : decode cX7_isAccount 0 = .ok (.iload_n 0, 1) := by decide +kernel
theorem dX7_isAccount_1 : decode cX7_isAccount 1 = .ok (.ifCond .lt 13, 3) := by decide +kernel
theorem dX7_isAccount_4 : decode cX7_isAccount 4 = .ok (.iload_n 0, 1) := by decide +kernel
theorem dX7_isAccount_5 : decode cX7_isAccount 5 = .ok (.bipush 6, 2) := by decide +kernel
theorem dX7_isAccount_7 : decode cX7_isAccount 7 = .ok (.if_icmp .ge 7, 3) := by decide +kernel
theorem dX7_isAccount_10 : decode cX7_isAccount 10 = .ok (.iconst 1, 1) := by decide +kernel
theorem dX7_isAccount_11 : decode cX7_isAccount 11 = .ok (.goto 4, 3) := by decide +kernel
theorem dX7_isAccount_14 : decode cX7_isAccount 14 = .ok (.iconst 0, 1) := by decide +kernel
theorem dX7_isAccount_15 : decode cX7_isAccount 15 = .ok (.ireturn, 1) := by decide +kernel
theorem dX7_takeFrom_0 : decode cX7_takeFrom 0 = .ok (.aload_n 0, 1) := by decide +kernel
theorem dX7_takeFrom_1 : decode cX7_takeFrom 1 = .ok (.aload_n 1, 1) := by decide +kernel
theorem dX7_takeFrom_2 : decode cX7_takeFrom 2 = .ok (.getfield 9, 3) := by decide +kernel
theorem dX7_takeFrom_5 : decode cX7_takeFrom 5 = .ok (.putfield 9, 3) := by decide +kernel
theorem dX7_takeFrom_8 : decode cX7_takeFrom 8 = .ok (.aload_n 0, 1) := by decide +kernel
theorem dX7_takeFrom_9 : decode cX7_takeFrom 9 = .ok (.aload_n 1, 1) := by decide +kernel
theorem dX7_takeFrom_10 : decode cX7_takeFrom 10 = .ok (.getfield 15, 3) := by decide +kernel
theorem dX7_takeFrom_13 : decode cX7_takeFrom 13 = .ok (.putfield 15, 3) := by decide +kernel
theorem dX7_takeFrom_16 : decode cX7_takeFrom 16 = .ok (.aload_n 0, 1) := by decide +kernel
theorem dX7_takeFrom_17 : decode cX7_takeFrom 17 = .ok (.aload_n 1, 1) := by decide +kernel
theorem dX7_takeFrom_18 : decode cX7_takeFrom 18 = .ok (.getfield 18, 3) := by decide +kernel
theorem dX7_takeFrom_21 : decode cX7_takeFrom 21 = .ok (.putfield 18, 3) := by decide +kernel
theorem dX7_takeFrom_24 : decode cX7_takeFrom 24 = .ok (.iconst 0, 1) := by decide +kernel
theorem dX7_takeFrom_25 : decode cX7_takeFrom 25 = .ok (.istore_n 2, 1) := by decide +kernel
theorem dX7_takeFrom_26 : decode cX7_takeFrom 26 = .ok (.iload_n 2, 1) := by decide +kernel
theorem dX7_takeFrom_27 : decode cX7_takeFrom 27 = .ok (.bipush 6, 2) := by decide +kernel
theorem dX7_takeFrom_29 : decode cX7_takeFrom 29 = .ok (.if_icmp .ge 33, 3) := by decide +kernel
theorem dX7_takeFrom_32 : decode cX7_takeFrom 32 = .ok (.aload_n 0, 1) := by decide +kernel
theorem dX7_takeFrom_33 : decode cX7_takeFrom 33 = .ok (.getfield 21, 3) := by decide +kernel
theorem dX7_takeFrom_36 : decode cX7_takeFrom 36 = .ok (.iload_n 2, 1) := by decide +kernel
theorem dX7_takeFrom_37 : decode cX7_takeFrom 37 = .ok (.aload_n 1, 1) := by decide +kernel
theorem dX7_takeFrom_38 : decode cX7_takeFrom 38 = .ok (.getfield 21, 3) := by decide +kernel
theorem dX7_takeFrom_41 : decode cX7_takeFrom 41 = .ok (.iload_n 2, 1) := by decide +kernel
theorem dX7_takeFrom_42 : decode cX7_takeFrom 42 = .ok (.iaload, 1) := by decide +kernel
theorem dX7_takeFrom_43 : decode cX7_takeFrom 43 = .ok (.iastore, 1) := by decide +kernel
theorem dX7_takeFrom_44 : decode cX7_takeFrom 44 = .ok (.aload_n 0, 1) := by decide +kernel
theorem dX7_takeFrom_45 : decode cX7_takeFrom 45 = .ok (.getfield 25, 3) := by decide +kernel
theorem dX7_takeFrom_48 : decode cX7_takeFrom 48 = .ok (.iload_n 2, 1) := by decide +kernel
theorem dX7_takeFrom_49 : decode cX7_takeFrom 49 = .ok (.aload_n 1, 1) := by decide +kernel
theorem dX7_takeFrom_50 : decode cX7_takeFrom 50 = .ok (.getfield 25, 3) := by decide +kernel
theorem dX7_takeFrom_53 : decode cX7_takeFrom 53 = .ok (.iload_n 2, 1) := by decide +kernel
theorem dX7_takeFrom_54 : decode cX7_takeFrom 54 = .ok (.iaload, 1) := by decide +kernel
theorem dX7_takeFrom_55 : decode cX7_takeFrom 55 = .ok (.iastore, 1) := by decide +kernel
theorem dX7_takeFrom_56 : decode cX7_takeFrom 56 = .ok (.iinc 2 1, 3) := by decide +kernel
theorem dX7_takeFrom_59 : decode cX7_takeFrom 59 = .ok (.goto (-33), 3) := by decide +kernel
theorem dX7_takeFrom_62 : decode cX7_takeFrom 62 = .ok (.return_, 1) := by decide +kernel
theorem dX7_store_0 : decode cX7_store 0 = .ok (.iload_n 1, 1) := by decide +kernel
theorem dX7_store_1 : decode cX7_store 1 = .ok (.invokestatic 28, 3) := by decide +kernel
theorem dX7_store_4 : decode cX7_store 4 = .ok (.ifCond .eq 25, 3) := by decide +kernel
theorem dX7_store_7 : decode cX7_store 7 = .ok (.aload_n 0, 1) := by decide +kernel
theorem dX7_store_8 : decode cX7_store 8 = .ok (.getfield 21, 3) := by decide +kernel
theorem dX7_store_11 : decode cX7_store 11 = .ok (.iload_n 1, 1) := by decide +kernel
theorem dX7_store_12 : decode cX7_store 12 = .ok (.aload_n 2, 1) := by decide +kernel
theorem dX7_store_13 : decode cX7_store 13 = .ok (.getfield 32, 3) := by decide +kernel
theorem dX7_store_16 : decode cX7_store 16 = .ok (.l2i, 1) := by decide +kernel
theorem dX7_store_17 : decode cX7_store 17 = .ok (.iastore, 1) := by decide +kernel
theorem dX7_store_18 : decode cX7_store 18 = .ok (.aload_n 0, 1) := by decide +kernel
theorem dX7_store_19 : decode cX7_store 19 = .ok (.getfield 25, 3) := by decide +kernel
theorem dX7_store_22 : decode cX7_store 22 = .ok (.iload_n 1, 1) := by decide +kernel
theorem dX7_store_23 : decode cX7_store 23 = .ok (.aload_n 2, 1) := by decide +kernel
theorem dX7_store_24 : decode cX7_store 24 = .ok (.getfield 38, 3) := by decide +kernel
theorem dX7_store_27 : decode cX7_store 27 = .ok (.l2i, 1) := by decide +kernel
theorem dX7_store_28 : decode cX7_store 28 = .ok (.iastore, 1) := by decide +kernel
theorem dX7_store_29 : decode cX7_store 29 = .ok (.return_, 1) := by decide +kernel
theorem dX7_numeratorOf_0 : decode cX7_numeratorOf 0 = .ok (.iload_n 1, 1) := by decide +kernel
theorem dX7_numeratorOf_1 : decode cX7_numeratorOf 1 = .ok (.invokestatic 28, 3) := by decide +kernel
theorem dX7_numeratorOf_4 : decode cX7_numeratorOf 4 = .ok (.ifCond .eq 12, 3) := by decide +kernel
theorem dX7_numeratorOf_7 : decode cX7_numeratorOf 7 = .ok (.aload_n 0, 1) := by decide +kernel
theorem dX7_numeratorOf_8 : decode cX7_numeratorOf 8 = .ok (.getfield 21, 3) := by decide +kernel
theorem dX7_numeratorOf_11 : decode cX7_numeratorOf 11 = .ok (.iload_n 1, 1) := by decide +kernel
theorem dX7_numeratorOf_12 : decode cX7_numeratorOf 12 = .ok (.iaload, 1) := by decide +kernel
theorem dX7_numeratorOf_13 : decode cX7_numeratorOf 13 = .ok (.goto 4, 3) := by decide +kernel
theorem dX7_numeratorOf_16 : decode cX7_numeratorOf 16 = .ok (.iconst 0, 1) := by decide +kernel
theorem dX7_numeratorOf_17 : decode cX7_numeratorOf 17 = .ok (.ireturn, 1) := by decide +kernel
theorem dX7_denominatorOf_0 : decode cX7_denominatorOf 0 = .ok (.iload_n 1, 1) := by decide +kernel
theorem dX7_denominatorOf_1 : decode cX7_denominatorOf 1 = .ok (.invokestatic 28, 3) := by decide +kernel
theorem dX7_denominatorOf_4 : decode cX7_denominatorOf 4 = .ok (.ifCond .eq 12, 3) := by decide +kernel
theorem dX7_denominatorOf_7 : decode cX7_denominatorOf 7 = .ok (.aload_n 0, 1) := by decide +kernel
theorem dX7_denominatorOf_8 : decode cX7_denominatorOf 8 = .ok (.getfield 25, 3) := by decide +kernel
theorem dX7_denominatorOf_11 : decode cX7_denominatorOf 11 = .ok (.iload_n 1, 1) := by decide +kernel
theorem dX7_denominatorOf_12 : decode cX7_denominatorOf 12 = .ok (.iaload, 1) := by decide +kernel
theorem dX7_denominatorOf_13 : decode cX7_denominatorOf 13 = .ok (.goto 4, 3) := by decide +kernel
theorem dX7_denominatorOf_16 : decode cX7_denominatorOf 16 = .ok (.iconst 1, 1) := by decide +kernel
theorem dX7_denominatorOf_17 : decode cX7_denominatorOf 17 = .ok (.ireturn, 1) := by decide +kernel
theorem dX7_wholeOf_0 : decode cX7_wholeOf 0 = .ok (.iload_n 1, 1) := by decide +kernel
theorem dX7_wholeOf_1 : decode cX7_wholeOf 1 = .ok (.invokestatic 28, 3) := by decide +kernel
theorem dX7_wholeOf_4 : decode cX7_wholeOf 4 = .ok (.ifCond .eq 28, 3) := by decide +kernel
theorem dX7_wholeOf_7 : decode cX7_wholeOf 7 = .ok (.aload_n 0, 1) := by decide +kernel
theorem dX7_wholeOf_8 : decode cX7_wholeOf 8 = .ok (.getfield 25, 3) := by decide +kernel
theorem dX7_wholeOf_11 : decode cX7_wholeOf 11 = .ok (.iload_n 1, 1) := by decide +kernel
theorem dX7_wholeOf_12 : decode cX7_wholeOf 12 = .ok (.iaload, 1) := by decide +kernel
theorem dX7_wholeOf_13 : decode cX7_wholeOf 13 = .ok (.ifCond .le 19, 3) := by decide +kernel
theorem dX7_wholeOf_16 : decode cX7_wholeOf 16 = .ok (.aload_n 0, 1) := by decide +kernel
theorem dX7_wholeOf_17 : decode cX7_wholeOf 17 = .ok (.getfield 21, 3) := by decide +kernel
theorem dX7_wholeOf_20 : decode cX7_wholeOf 20 = .ok (.iload_n 1, 1) := by decide +kernel
theorem dX7_wholeOf_21 : decode cX7_wholeOf 21 = .ok (.iaload, 1) := by decide +kernel
theorem dX7_wholeOf_22 : decode cX7_wholeOf 22 = .ok (.aload_n 0, 1) := by decide +kernel
theorem dX7_wholeOf_23 : decode cX7_wholeOf 23 = .ok (.getfield 25, 3) := by decide +kernel
theorem dX7_wholeOf_26 : decode cX7_wholeOf 26 = .ok (.iload_n 1, 1) := by decide +kernel
theorem dX7_wholeOf_27 : decode cX7_wholeOf 27 = .ok (.iaload, 1) := by decide +kernel
theorem dX7_wholeOf_28 : decode cX7_wholeOf 28 = .ok (.idiv, 1) := by decide +kernel
theorem dX7_wholeOf_29 : decode cX7_wholeOf 29 = .ok (.goto 4, 3) := by decide +kernel
theorem dX7_wholeOf_32 : decode cX7_wholeOf 32 = .ok (.iconst 0, 1) := by decide +kernel
theorem dX7_wholeOf_33 : decode cX7_wholeOf 33 = .ok (.ireturn, 1) := by decide +kernel
theorem dX7_restOf_0 : decode cX7_restOf 0 = .ok (.iload_n 1, 1) := by decide +kernel
theorem dX7_restOf_1 : decode cX7_restOf 1 = .ok (.invokestatic 28, 3) := by decide +kernel
theorem dX7_restOf_4 : decode cX7_restOf 4 = .ok (.ifCond .eq 29, 3) := by decide +kernel
theorem dX7_restOf_7 : decode cX7_restOf 7 = .ok (.aload_n 0, 1) := by decide +kernel
theorem dX7_restOf_8 : decode cX7_restOf 8 = .ok (.getfield 25, 3) := by decide +kernel
theorem dX7_restOf_11 : decode cX7_restOf 11 = .ok (.iload_n 1, 1) := by decide +kernel
theorem dX7_restOf_12 : decode cX7_restOf 12 = .ok (.iaload, 1) := by decide +kernel
theorem dX7_restOf_13 : decode cX7_restOf 13 = .ok (.ifCond .le 20, 3) := by decide +kernel
theorem dX7_restOf_16 : decode cX7_restOf 16 = .ok (.aload_n 0, 1) := by decide +kernel
theorem dX7_restOf_17 : decode cX7_restOf 17 = .ok (.getfield 21, 3) := by decide +kernel
theorem dX7_restOf_20 : decode cX7_restOf 20 = .ok (.iload_n 1, 1) := by decide +kernel
theorem dX7_restOf_21 : decode cX7_restOf 21 = .ok (.iaload, 1) := by decide +kernel
theorem dX7_restOf_22 : decode cX7_restOf 22 = .ok (.aload_n 0, 1) := by decide +kernel
theorem dX7_restOf_23 : decode cX7_restOf 23 = .ok (.getfield 25, 3) := by decide +kernel
theorem dX7_restOf_26 : decode cX7_restOf 26 = .ok (.iload_n 1, 1) := by decide +kernel
theorem dX7_restOf_27 : decode cX7_restOf 27 = .ok (.iaload, 1) := by decide +kernel
theorem dX7_restOf_28 : decode cX7_restOf 28 = .ok (.irem, 1) := by decide +kernel
theorem dX7_restOf_29 : decode cX7_restOf 29 = .ok (.i2l, 1) := by decide +kernel
theorem dX7_restOf_30 : decode cX7_restOf 30 = .ok (.goto 4, 3) := by decide +kernel
theorem dX7_restOf_33 : decode cX7_restOf 33 = .ok (.lconst 0, 1) := by decide +kernel
theorem dX7_restOf_34 : decode cX7_restOf 34 = .ok (.lreturn, 1) := by decide +kernel
theorem dX7_asDouble_0 : decode cX7_asDouble 0 = .ok (.iload_n 1, 1) := by decide +kernel
theorem dX7_asDouble_1 : decode cX7_asDouble 1 = .ok (.invokestatic 28, 3) := by decide +kernel
theorem dX7_asDouble_4 : decode cX7_asDouble 4 = .ok (.ifCond .eq 30, 3) := by decide +kernel
theorem dX7_asDouble_7 : decode cX7_asDouble 7 = .ok (.aload_n 0, 1) := by decide +kernel
theorem dX7_asDouble_8 : decode cX7_asDouble 8 = .ok (.getfield 25, 3) := by decide +kernel
theorem dX7_asDouble_11 : decode cX7_asDouble 11 = .ok (.iload_n 1, 1) := by decide +kernel
theorem dX7_asDouble_12 : decode cX7_asDouble 12 = .ok (.iaload, 1) := by decide +kernel
theorem dX7_asDouble_13 : decode cX7_asDouble 13 = .ok (.ifCond .le 21, 3) := by decide +kernel
theorem dX7_asDouble_16 : decode cX7_asDouble 16 = .ok (.aload_n 0, 1) := by decide +kernel
theorem dX7_asDouble_17 : decode cX7_asDouble 17 = .ok (.getfield 21, 3) := by decide +kernel
theorem dX7_asDouble_20 : decode cX7_asDouble 20 = .ok (.iload_n 1, 1) := by decide +kernel
theorem dX7_asDouble_21 : decode cX7_asDouble 21 = .ok (.iaload, 1) := by decide +kernel
theorem dX7_asDouble_22 : decode cX7_asDouble 22 = .ok (.i2d, 1) := by decide +kernel
theorem dX7_asDouble_23 : decode cX7_asDouble 23 = .ok (.aload_n 0, 1) := by decide +kernel
theorem dX7_asDouble_24 : decode cX7_asDouble 24 = .ok (.getfield 25, 3) := by decide +kernel
theorem dX7_asDouble_27 : decode cX7_asDouble 27 = .ok (.iload_n 1, 1) := by decide +kernel
theorem dX7_asDouble_28 : decode cX7_asDouble 28 = .ok (.iaload, 1) := by decide +kernel
theorem dX7_asDouble_29 : decode cX7_asDouble 29 = .ok (.i2d, 1) := by decide +kernel
theorem dX7_asDouble_30 : decode cX7_asDouble 30 = .ok (.ddiv, 1) := by decide +kernel
theorem dX7_asDouble_31 : decode cX7_asDouble 31 = .ok (.goto 4, 3) := by decide +kernel
theorem dX7_asDouble_34 : decode cX7_asDouble 34 = .ok (.dconst 0, 1) := by decide +kernel
theorem dX7_asDouble_35 : decode cX7_asDouble 35 = .ok (.dreturn, 1) := by decide +kernel
theorem dX8_init_0 : decode cX8_init 0 = .ok (.aload_n 0, 1) := by decide +kernel
theorem dX8_init_1 : decode cX8_init 1 = .ok (.invokespecial 3, 3) := by decide +kernel
theorem dX8_init_4 : decode cX8_init 4 = .ok (.aload_n 0, 1) := by decide +kernel
theorem dX8_init_5 : decode cX8_init 5 = .ok (.iconst 1, 1) := by decide +kernel
theorem dX8_init_6 : decode cX8_init 6 = .ok (.putfield 11, 3) := by decide +kernel
theorem dX8_init_9 : decode cX8_init 9 = .ok (.aload_n 0, 1) := by decide +kernel
theorem dX8_init_10 : decode cX8_init 10 = .ok (.iconst 0, 1) := by decide +kernel
theorem dX8_init_11 : decode cX8_init 11 = .ok (.putfield 15, 3) := by decide +kernel
theorem dX8_init_14 : decode cX8_init 14 = .ok (.return_, 1) := by decide +kernel
theorem dX9_count_0 : decode cX9_count 0 = .ok (.iconst 1, 1) := by decide +kernel
theorem dX9_count_1 : decode cX9_count 1 = .ok (.istore_n 2, 1) := by decide +kernel
theorem dX9_count_2 : decode cX9_count 2 = .ok (.iload_n 0, 1) := by decide +kernel
theorem dX9_count_3 : decode cX9_count 3 = .ok (.i2l, 1) := by decide +kernel
theorem dX9_count_4 : decode cX9_count 4 = .ok (.iload_n 1, 1) := by decide +kernel
theorem dX9_count_5 : decode cX9_count 5 = .ok (.i2l, 1) := by decide +kernel
theorem dX9_count_6 : decode cX9_count 6 = .ok (.invokestatic 9, 3) := by decide +kernel
theorem dX9_count_9 : decode cX9_count 9 = .ok (.lstore_n 3, 1) := by decide +kernel
theorem dX9_count_10 : decode cX9_count 10 = .ok (.lload_n 3, 1) := by decide +kernel
theorem dX9_count_11 : decode cX9_count 11 = .ok (.lconst 0, 1) := by decide +kernel
theorem dX9_count_12 : decode cX9_count 12 = .ok (.lcmp, 1) := by decide +kernel
theorem dX9_count_13 : decode cX9_count 13 = .ok (.ifCond .le 22, 3) := by decide +kernel
theorem dX9_count_16 : decode cX9_count 16 = .ok (.iload_n 2, 1) := by decide +kernel
theorem dX9_count_17 : decode cX9_count 17 = .ok (.bipush 30, 2) := by decide +kernel
theorem dX9_count_19 : decode cX9_count 19 = .ok (.if_icmp .ge 16, 3) := by decide +kernel
theorem dX9_count_22 : decode cX9_count 22 = .ok (.lload_n 3, 1) := by decide +kernel
theorem dX9_count_23 : decode cX9_count 23 = .ok (.iload_n 1, 1) := by decide +kernel
theorem dX9_count_24 : decode cX9_count 24 = .ok (.i2l, 1) := by decide +kernel
theorem dX9_count_25 : decode cX9_count 25 = .ok (.invokestatic 9, 3) := by decide +kernel
theorem dX9_count_28 : decode cX9_count 28 = .ok (.lstore_n 3, 1) := by decide +kernel
theorem dX9_count_29 : decode cX9_count 29 = .ok (.iinc 2 1, 3) := by decide +kernel
theorem dX9_count_32 : decode cX9_count 32 = .ok (.goto (-22), 3) := by decide +kernel
theorem dX9_count_35 : decode cX9_count 35 = .ok (.iload_n 2, 1) := by decide +kernel
theorem dX9_count_36 : decode cX9_count 36 = .ok (.ireturn, 1) := by decide +kernel
theorem dX9_byDividing_0 : decode cX9_byDividing 0 = .ok (.iload_n 0, 1) := by decide +kernel
theorem dX9_byDividing_1 : decode cX9_byDividing 1 = .ok (.i2l, 1) := by decide +kernel
theorem dX9_byDividing_2 : decode cX9_byDividing 2 = .ok (.lstore_n 3, 1) := by decide +kernel
theorem dX9_byDividing_3 : decode cX9_byDividing 3 = .ok (.iconst 0, 1) := by decide +kernel
theorem dX9_byDividing_4 : decode cX9_byDividing 4 = .ok (.istore 5, 2) := by decide +kernel
theorem dX9_byDividing_6 : decode cX9_byDividing 6 = .ok (.iload 5, 2) := by decide +kernel
theorem dX9_byDividing_8 : decode cX9_byDividing 8 = .ok (.iload_n 2, 1) := by decide +kernel
theorem dX9_byDividing_9 : decode cX9_byDividing 9 = .ok (.if_icmp .ge 23, 3) := by decide +kernel
theorem dX9_byDividing_12 : decode cX9_byDividing 12 = .ok (.iload 5, 2) := by decide +kernel
theorem dX9_byDividing_14 : decode cX9_byDividing 14 = .ok (.bipush 30, 2) := by decide +kernel
theorem dX9_byDividing_16 : decode cX9_byDividing 16 = .ok (.if_icmp .ge 16, 3) := by decide +kernel
theorem dX9_byDividing_19 : decode cX9_byDividing 19 = .ok (.lload_n 3, 1) := by decide +kernel
theorem dX9_byDividing_20 : decode cX9_byDividing 20 = .ok (.iload_n 1, 1) := by decide +kernel
theorem dX9_byDividing_21 : decode cX9_byDividing 21 = .ok (.i2l, 1) := by decide +kernel
theorem dX9_byDividing_22 : decode cX9_byDividing 22 = .ok (.invokestatic 9, 3) := by decide +kernel
theorem dX9_byDividing_25 : decode cX9_byDividing 25 = .ok (.lstore_n 3, 1) := by decide +kernel
theorem dX9_byDividing_26 : decode cX9_byDividing 26 = .ok (.iinc 5 1, 3) := by decide +kernel
theorem dX9_byDividing_29 : decode cX9_byDividing 29 = .ok (.goto (-23), 3) := by decide +kernel
theorem dX9_byDividing_32 : decode cX9_byDividing 32 = .ok (.lload_n 3, 1) := by decide +kernel
theorem dX9_byDividing_33 : decode cX9_byDividing 33 = .ok (.iload_n 1, 1) := by decide +kernel
theorem dX9_byDividing_34 : decode cX9_byDividing 34 = .ok (.i2l, 1) := by decide +kernel
theorem dX9_byDividing_35 : decode cX9_byDividing 35 = .ok (.invokestatic 15, 3) := by decide +kernel
theorem dX9_byDividing_38 : decode cX9_byDividing 38 = .ok (.l2i, 1) := by decide +kernel
theorem dX9_byDividing_39 : decode cX9_byDividing 39 = .ok (.ireturn, 1) := by decide +kernel
theorem dX9_byPowers_0 : decode cX9_byPowers 0 = .ok (.iload_n 0, 1) := by decide +kernel
theorem dX9_byPowers_1 : decode cX9_byPowers 1 = .ok (.iload_n 1, 1) := by decide +kernel
theorem dX9_byPowers_2 : decode cX9_byPowers 2 = .ok (.invokestatic 18, 3) := by decide +kernel
theorem dX9_byPowers_5 : decode cX9_byPowers 5 = .ok (.iconst 1, 1) := by decide +kernel
theorem dX9_byPowers_6 : decode cX9_byPowers 6 = .ok (.isub, 1) := by decide +kernel
theorem dX9_byPowers_7 : decode cX9_byPowers 7 = .ok (.istore_n 3, 1) := by decide +kernel
theorem dX9_byPowers_8 : decode cX9_byPowers 8 = .ok (.iload_n 1, 1) := by decide +kernel
theorem dX9_byPowers_9 : decode cX9_byPowers 9 = .ok (.i2l, 1) := by decide +kernel
theorem dX9_byPowers_10 : decode cX9_byPowers 10 = .ok (.iload_n 3, 1) := by decide +kernel
theorem dX9_byPowers_11 : decode cX9_byPowers 11 = .ok (.invokestatic 24, 3) := by decide +kernel
theorem dX9_byPowers_14 : decode cX9_byPowers 14 = .ok (.lstore 4, 2) := by decide +kernel
theorem dX9_byPowers_16 : decode cX9_byPowers 16 = .ok (.iload_n 0, 1) := by decide +kernel
theorem dX9_byPowers_17 : decode cX9_byPowers 17 = .ok (.i2l, 1) := by decide +kernel
theorem dX9_byPowers_18 : decode cX9_byPowers 18 = .ok (.lstore 6, 2) := by decide +kernel
theorem dX9_byPowers_20 : decode cX9_byPowers 20 = .ok (.iconst 0, 1) := by decide +kernel
theorem dX9_byPowers_21 : decode cX9_byPowers 21 = .ok (.istore 8, 2) := by decide +kernel
theorem dX9_byPowers_23 : decode cX9_byPowers 23 = .ok (.iload_n 3, 1) := by decide +kernel
theorem dX9_byPowers_24 : decode cX9_byPowers 24 = .ok (.istore 9, 2) := by decide +kernel
theorem dX9_byPowers_26 : decode cX9_byPowers 26 = .ok (.iload 9, 2) := by decide +kernel
theorem dX9_byPowers_28 : decode cX9_byPowers 28 = .ok (.iload_n 2, 1) := by decide +kernel
theorem dX9_byPowers_29 : decode cX9_byPowers 29 = .ok (.if_icmp .lt 53, 3) := by decide +kernel
theorem dX9_byPowers_32 : decode cX9_byPowers 32 = .ok (.iload 9, 2) := by decide +kernel
theorem dX9_byPowers_34 : decode cX9_byPowers 34 = .ok (.ifCond .lt 48, 3) := by decide +kernel
theorem dX9_byPowers_37 : decode cX9_byPowers 37 = .ok (.iconst 0, 1) := by decide +kernel
theorem dX9_byPowers_38 : decode cX9_byPowers 38 = .ok (.istore 8, 2) := by decide +kernel
theorem dX9_byPowers_40 : decode cX9_byPowers 40 = .ok (.iload 8, 2) := by decide +kernel
theorem dX9_byPowers_42 : decode cX9_byPowers 42 = .ok (.iload_n 1, 1) := by decide +kernel
theorem dX9_byPowers_43 : decode cX9_byPowers 43 = .ok (.if_icmp .ge 24, 3) := by decide +kernel
theorem dX9_byPowers_46 : decode cX9_byPowers 46 = .ok (.lload 6, 2) := by decide +kernel
theorem dX9_byPowers_48 : decode cX9_byPowers 48 = .ok (.lload 4, 2) := by decide +kernel
theorem dX9_byPowers_50 : decode cX9_byPowers 50 = .ok (.lcmp, 1) := by decide +kernel
theorem dX9_byPowers_51 : decode cX9_byPowers 51 = .ok (.ifCond .lt 16, 3) := by decide +kernel
theorem dX9_byPowers_54 : decode cX9_byPowers 54 = .ok (.lload 6, 2) := by decide +kernel
theorem dX9_byPowers_56 : decode cX9_byPowers 56 = .ok (.lload 4, 2) := by decide +kernel
theorem dX9_byPowers_58 : decode cX9_byPowers 58 = .ok (.lsub, 1) := by decide +kernel
theorem dX9_byPowers_59 : decode cX9_byPowers 59 = .ok (.lstore 6, 2) := by decide +kernel
theorem dX9_byPowers_61 : decode cX9_byPowers 61 = .ok (.iinc 8 1, 3) := by decide +kernel
theorem dX9_byPowers_64 : decode cX9_byPowers 64 = .ok (.goto (-24), 3) := by decide +kernel
theorem dX9_byPowers_67 : decode cX9_byPowers 67 = .ok (.lload 4, 2) := by decide +kernel
theorem dX9_byPowers_69 : decode cX9_byPowers 69 = .ok (.iload_n 1, 1) := by decide +kernel
theorem dX9_byPowers_70 : decode cX9_byPowers 70 = .ok (.i2l, 1) := by decide +kernel
theorem dX9_byPowers_71 : decode cX9_byPowers 71 = .ok (.invokestatic 9, 3) := by decide +kernel
theorem dX9_byPowers_74 : decode cX9_byPowers 74 = .ok (.lstore 4, 2) := by decide +kernel
theorem dX9_byPowers_76 : decode cX9_byPowers 76 = .ok (.iinc 9 (-1), 3) := by decide +kernel
theorem dX9_byPowers_79 : decode cX9_byPowers 79 = .ok (.goto (-53), 3) := by decide +kernel
theorem dX9_byPowers_82 : decode cX9_byPowers 82 = .ok (.iload 8, 2) := by decide +kernel
theorem dX9_byPowers_84 : decode cX9_byPowers 84 = .ok (.ireturn, 1) := by decide +kernel
theorem dX9_sum_0 : decode cX9_sum 0 = .ok (.iload_n 0, 1) := by decide +kernel
theorem dX9_sum_1 : decode cX9_sum 1 = .ok (.i2l, 1) := by decide +kernel
theorem dX9_sum_2 : decode cX9_sum 2 = .ok (.lstore_n 2, 1) := by decide +kernel
theorem dX9_sum_3 : decode cX9_sum 3 = .ok (.lconst 0, 1) := by decide +kernel
theorem dX9_sum_4 : decode cX9_sum 4 = .ok (.lstore 4, 2) := by decide +kernel
theorem dX9_sum_6 : decode cX9_sum 6 = .ok (.iconst 0, 1) := by decide +kernel
theorem dX9_sum_7 : decode cX9_sum 7 = .ok (.istore 6, 2) := by decide +kernel
theorem dX9_sum_9 : decode cX9_sum 9 = .ok (.lload_n 2, 1) := by decide +kernel
theorem dX9_sum_10 : decode cX9_sum 10 = .ok (.lconst 0, 1) := by decide +kernel
theorem dX9_sum_11 : decode cX9_sum 11 = .ok (.lcmp, 1) := by decide +kernel
theorem dX9_sum_12 : decode cX9_sum 12 = .ok (.ifCond .le 34, 3) := by decide +kernel
theorem dX9_sum_15 : decode cX9_sum 15 = .ok (.iload 6, 2) := by decide +kernel
theorem dX9_sum_17 : decode cX9_sum 17 = .ok (.bipush 30, 2) := by decide +kernel
theorem dX9_sum_19 : decode cX9_sum 19 = .ok (.if_icmp .ge 27, 3) := by decide +kernel
theorem dX9_sum_22 : decode cX9_sum 22 = .ok (.lload 4, 2) := by decide +kernel
theorem dX9_sum_24 : decode cX9_sum 24 = .ok (.lload_n 2, 1) := by decide +kernel
theorem dX9_sum_25 : decode cX9_sum 25 = .ok (.iload_n 1, 1) := by decide +kernel
theorem dX9_sum_26 : decode cX9_sum 26 = .ok (.i2l, 1) := by decide +kernel
theorem dX9_sum_27 : decode cX9_sum 27 = .ok (.invokestatic 15, 3) := by decide +kernel
theorem dX9_sum_30 : decode cX9_sum 30 = .ok (.ladd, 1) := by decide +kernel
theorem dX9_sum_31 : decode cX9_sum 31 = .ok (.lstore 4, 2) := by decide +kernel
theorem dX9_sum_33 : decode cX9_sum 33 = .ok (.lload_n 2, 1) := by decide +kernel
theorem dX9_sum_34 : decode cX9_sum 34 = .ok (.iload_n 1, 1) := by decide +kernel
theorem dX9_sum_35 : decode cX9_sum 35 = .ok (.i2l, 1) := by decide +kernel
theorem dX9_sum_36 : decode cX9_sum 36 = .ok (.invokestatic 9, 3) := by decide +kernel
theorem dX9_sum_39 : decode cX9_sum 39 = .ok (.lstore_n 2, 1) := by decide +kernel
theorem dX9_sum_40 : decode cX9_sum 40 = .ok (.iinc 6 1, 3) := by decide +kernel
theorem dX9_sum_43 : decode cX9_sum 43 = .ok (.goto (-34), 3) := by decide +kernel
theorem dX9_sum_46 : decode cX9_sum 46 = .ok (.lload 4, 2) := by decide +kernel
theorem dX9_sum_48 : decode cX9_sum 48 = .ok (.l2i, 1) := by decide +kernel
theorem dX9_sum_49 : decode cX9_sum 49 = .ok (.ireturn, 1) := by decide +kernel
theorem dX10_init_0 : decode cX10_init 0 = .ok (.aload_n 0, 1) := by decide +kernel
theorem dX10_init_1 : decode cX10_init 1 = .ok (.invokespecial 1, 3) := by decide +kernel
theorem dX10_init_4 : decode cX10_init 4 = .ok (.aload_n 0, 1) := by decide +kernel
theorem dX10_init_5 : decode cX10_init 5 = .ok (.new 7, 3) := by decide +kernel
theorem dX10_init_8 : decode cX10_init 8 = .ok (.dup, 1) := by decide +kernel
theorem dX10_init_9 : decode cX10_init 9 = .ok (.invokespecial 9, 3) := by decide +kernel
theorem dX10_init_12 : decode cX10_init 12 = .ok (.putfield 10, 3) := by decide +kernel
theorem dX10_init_15 : decode cX10_init 15 = .ok (.aload_n 0, 1) := by decide +kernel
theorem dX10_init_16 : decode cX10_init 16 = .ok (.new 7, 3) := by decide +kernel
theorem dX10_init_19 : decode cX10_init 19 = .ok (.dup, 1) := by decide +kernel
theorem dX10_init_20 : decode cX10_init 20 = .ok (.invokespecial 9, 3) := by decide +kernel
theorem dX10_init_23 : decode cX10_init 23 = .ok (.putfield 16, 3) := by decide +kernel
theorem dX10_init_26 : decode cX10_init 26 = .ok (.aload_n 0, 1) := by decide +kernel
theorem dX10_init_27 : decode cX10_init 27 = .ok (.iconst 0, 1) := by decide +kernel
theorem dX10_init_28 : decode cX10_init 28 = .ok (.putfield 19, 3) := by decide +kernel
theorem dX10_init_31 : decode cX10_init 31 = .ok (.aload_n 0, 1) := by decide +kernel
theorem dX10_init_32 : decode cX10_init 32 = .ok (.new 23, 3) := by decide +kernel
theorem dX10_init_35 : decode cX10_init 35 = .ok (.dup, 1) := by decide +kernel
theorem dX10_init_36 : decode cX10_init 36 = .ok (.invokespecial 25, 3) := by decide +kernel
theorem dX10_init_39 : decode cX10_init 39 = .ok (.putfield 26, 3) := by decide +kernel
theorem dX10_init_42 : decode cX10_init 42 = .ok (.aload_n 0, 1) := by decide +kernel
theorem dX10_init_43 : decode cX10_init 43 = .ok (.new 30, 3) := by decide +kernel
theorem dX10_init_46 : decode cX10_init 46 = .ok (.dup, 1) := by decide +kernel
theorem dX10_init_47 : decode cX10_init 47 = .ok (.invokespecial 32, 3) := by decide +kernel
theorem dX10_init_50 : decode cX10_init 50 = .ok (.putfield 33, 3) := by decide +kernel
theorem dX10_init_53 : decode cX10_init 53 = .ok (.aload_n 0, 1) := by decide +kernel
theorem dX10_init_54 : decode cX10_init 54 = .ok (.new 37, 3) := by decide +kernel
theorem dX10_init_57 : decode cX10_init 57 = .ok (.dup, 1) := by decide +kernel
theorem dX10_init_58 : decode cX10_init 58 = .ok (.invokespecial 39, 3) := by decide +kernel
theorem dX10_init_61 : decode cX10_init 61 = .ok (.putfield 40, 3) := by decide +kernel
theorem dX10_init_64 : decode cX10_init 64 = .ok (.aload_n 0, 1) := by decide +kernel
theorem dX10_init_65 : decode cX10_init 65 = .ok (.new 44, 3) := by decide +kernel
theorem dX10_init_68 : decode cX10_init 68 = .ok (.dup, 1) := by decide +kernel
theorem dX10_init_69 : decode cX10_init 69 = .ok (.invokespecial 46, 3) := by decide +kernel
theorem dX10_init_72 : decode cX10_init 72 = .ok (.putfield 47, 3) := by decide +kernel
theorem dX10_init_75 : decode cX10_init 75 = .ok (.aload_n 0, 1) := by decide +kernel
theorem dX10_init_76 : decode cX10_init 76 = .ok (.new 51, 3) := by decide +kernel
theorem dX10_init_79 : decode cX10_init 79 = .ok (.dup, 1) := by decide +kernel
theorem dX10_init_80 : decode cX10_init 80 = .ok (.invokespecial 53, 3) := by decide +kernel
theorem dX10_init_83 : decode cX10_init 83 = .ok (.putfield 54, 3) := by decide +kernel
theorem dX10_init_86 : decode cX10_init 86 = .ok (.return_, 1) := by decide +kernel
theorem dX10_setBase_0 : decode cX10_setBase 0 = .ok (.iload_n 1, 1) := by decide +kernel
theorem dX10_setBase_1 : decode cX10_setBase 1 = .ok (.invokestatic 58, 3) := by decide +kernel
theorem dX10_setBase_4 : decode cX10_setBase 4 = .ok (.aload_n 0, 1) := by decide +kernel
theorem dX10_setBase_5 : decode cX10_setBase 5 = .ok (.getfield 26, 3) := by decide +kernel
theorem dX10_setBase_8 : decode cX10_setBase 8 = .ok (.aload_n 0, 1) := by decide +kernel
theorem dX10_setBase_9 : decode cX10_setBase 9 = .ok (.getfield 10, 3) := by decide +kernel
theorem dX10_setBase_12 : decode cX10_setBase 12 = .ok (.invokevirtual 62, 3) := by decide +kernel
theorem dX10_setBase_15 : decode cX10_setBase 15 = .ok (.aload_n 0, 1) := by decide +kernel
theorem dX10_setBase_16 : decode cX10_setBase 16 = .ok (.getfield 10, 3) := by decide +kernel
theorem dX10_setBase_19 : decode cX10_setBase 19 = .ok (.getfield 66, 3) := by decide +kernel
theorem dX10_setBase_22 : decode cX10_setBase 22 = .ok (.istore_n 2, 1) := by decide +kernel
theorem dX10_setBase_23 : decode cX10_setBase 23 = .ok (.aload_n 0, 1) := by decide +kernel
theorem dX10_setBase_24 : decode cX10_setBase 24 = .ok (.getfield 10, 3) := by decide +kernel
theorem dX10_setBase_27 : decode cX10_setBase 27 = .ok (.iload_n 1, 1) := by decide +kernel
theorem dX10_setBase_28 : decode cX10_setBase 28 = .ok (.putfield 66, 3) := by decide +kernel
theorem dX10_setBase_31 : decode cX10_setBase 31 = .ok (.iload_n 2, 1) := by decide +kernel
theorem dX10_setBase_32 : decode cX10_setBase 32 = .ok (.ireturn, 1) := by decide +kernel
theorem dX10_setFraction_0 : decode cX10_setFraction 0 = .ok (.iload_n 1, 1) := by decide +kernel
theorem dX10_setFraction_1 : decode cX10_setFraction 1 = .ok (.invokestatic 70, 3) := by decide +kernel
theorem dX10_setFraction_4 : decode cX10_setFraction 4 = .ok (.iload_n 2, 1) := by decide +kernel
theorem dX10_setFraction_5 : decode cX10_setFraction 5 = .ok (.ifCond .lt 9, 3) := by decide +kernel
theorem dX10_setFraction_8 : decode cX10_setFraction 8 = .ok (.iload_n 2, 1) := by decide +kernel
theorem dX10_setFraction_9 : decode cX10_setFraction 9 = .ok (.ldc 73, 2) := by decide +kernel
theorem dX10_setFraction_11 : decode cX10_setFraction 11 = .ok (.if_icmp .le 13, 3) := by decide +kernel
theorem dX10_setFraction_14 : decode cX10_setFraction 14 = .ok (.new 74, 3) := by decide +kernel
theorem dX10_setFraction_17 : decode cX10_setFraction 17 = .ok (.dup, 1) := by decide +kernel
theorem dX10_setFraction_18 : decode cX10_setFraction 18 = .ok (.ldc 76, 2) := by decide +kernel
theorem dX10_setFraction_20 : decode cX10_setFraction 20 = .ok (.invokespecial 78, 3) := by decide +kernel
theorem dX10_setFraction_23 : decode cX10_setFraction 23 = .ok (.athrow, 1) := by decide +kernel
theorem dX10_setFraction_24 : decode cX10_setFraction 24 = .ok (.iload_n 3, 1) := by decide +kernel
theorem dX10_setFraction_25 : decode cX10_setFraction 25 = .ok (.iconst 1, 1) := by decide +kernel
theorem dX10_setFraction_26 : decode cX10_setFraction 26 = .ok (.if_icmp .lt 10, 3) := by decide +kernel
theorem dX10_setFraction_29 : decode cX10_setFraction 29 = .ok (.iload_n 3, 1) := by decide +kernel
theorem dX10_setFraction_30 : decode cX10_setFraction 30 = .ok (.sipush 999, 3) := by decide +kernel
theorem dX10_setFraction_33 : decode cX10_setFraction 33 = .ok (.if_icmp .le 13, 3) := by decide +kernel
theorem dX10_setFraction_36 : decode cX10_setFraction 36 = .ok (.new 74, 3) := by decide +kernel
theorem dX10_setFraction_39 : decode cX10_setFraction 39 = .ok (.dup, 1) := by decide +kernel
theorem dX10_setFraction_40 : decode cX10_setFraction 40 = .ok (.ldc 81, 2) := by decide +kernel
theorem dX10_setFraction_42 : decode cX10_setFraction 42 = .ok (.invokespecial 78, 3) := by decide +kernel
theorem dX10_setFraction_45 : decode cX10_setFraction 45 = .ok (.athrow, 1) := by decide +kernel
theorem dX10_setFraction_46 : decode cX10_setFraction 46 = .ok (.aload_n 0, 1) := by decide +kernel
theorem dX10_setFraction_47 : decode cX10_setFraction 47 = .ok (.getfield 40, 3) := by decide +kernel
theorem dX10_setFraction_50 : decode cX10_setFraction 50 = .ok (.iload_n 2, 1) := by decide +kernel
theorem dX10_setFraction_51 : decode cX10_setFraction 51 = .ok (.i2l, 1) := by decide +kernel
theorem dX10_setFraction_52 : decode cX10_setFraction 52 = .ok (.iload_n 3, 1) := by decide +kernel
theorem dX10_setFraction_53 : decode cX10_setFraction 53 = .ok (.i2l, 1) := by decide +kernel
theorem dX10_setFraction_54 : decode cX10_setFraction 54 = .ok (.invokevirtual 83, 3) := by decide +kernel
theorem dX10_setFraction_57 : decode cX10_setFraction 57 = .ok (.aload_n 0, 1) := by decide +kernel
theorem dX10_setFraction_58 : decode cX10_setFraction 58 = .ok (.iload_n 1, 1) := by decide +kernel
theorem dX10_setFraction_59 : decode cX10_setFraction 59 = .ok (.invokevirtual 87, 3) := by decide +kernel
theorem dX10_setFraction_62 : decode cX10_setFraction 62 = .ok (.aload_n 0, 1) := by decide +kernel
theorem dX10_setFraction_63 : decode cX10_setFraction 63 = .ok (.getfield 10, 3) := by decide +kernel
theorem dX10_setFraction_66 : decode cX10_setFraction 66 = .ok (.iload_n 1, 1) := by decide +kernel
theorem dX10_setFraction_67 : decode cX10_setFraction 67 = .ok (.invokevirtual 90, 3) := by decide +kernel
theorem dX10_setFraction_70 : decode cX10_setFraction 70 = .ok (.ireturn, 1) := by decide +kernel
theorem dX10_add_0 : decode cX10_add 0 = .ok (.iload_n 1, 1) := by decide +kernel
theorem dX10_add_1 : decode cX10_add 1 = .ok (.iload_n 2, 1) := by decide +kernel
theorem dX10_add_2 : decode cX10_add 2 = .ok (.invokestatic 94, 3) := by decide +kernel
theorem dX10_add_5 : decode cX10_add 5 = .ok (.aload_n 0, 1) := by decide +kernel
theorem dX10_add_6 : decode cX10_add 6 = .ok (.iload_n 1, 1) := by decide +kernel
theorem dX10_add_7 : decode cX10_add 7 = .ok (.iload_n 2, 1) := by decide +kernel
theorem dX10_add_8 : decode cX10_add 8 = .ok (.invokevirtual 98, 3) := by decide +kernel
theorem dX10_add_11 : decode cX10_add 11 = .ok (.aload_n 0, 1) := by decide +kernel
theorem dX10_add_12 : decode cX10_add 12 = .ok (.invokevirtual 101, 3) := by decide +kernel
theorem dX10_add_15 : decode cX10_add 15 = .ok (.aload_n 0, 1) := by decide +kernel
theorem dX10_add_16 : decode cX10_add 16 = .ok (.iload_n 1, 1) := by decide +kernel
theorem dX10_add_17 : decode cX10_add 17 = .ok (.invokevirtual 87, 3) := by decide +kernel
theorem dX10_add_20 : decode cX10_add 20 = .ok (.aload_n 0, 1) := by decide +kernel
theorem dX10_add_21 : decode cX10_add 21 = .ok (.getfield 10, 3) := by decide +kernel
theorem dX10_add_24 : decode cX10_add 24 = .ok (.iload_n 1, 1) := by decide +kernel
theorem dX10_add_25 : decode cX10_add 25 = .ok (.invokevirtual 104, 3) := by decide +kernel
theorem dX10_add_28 : decode cX10_add 28 = .ok (.ireturn, 1) := by decide +kernel
theorem dX10_subtract_0 : decode cX10_subtract 0 = .ok (.iload_n 1, 1) := by decide +kernel
theorem dX10_subtract_1 : decode cX10_subtract 1 = .ok (.iload_n 2, 1) := by decide +kernel
theorem dX10_subtract_2 : decode cX10_subtract 2 = .ok (.invokestatic 94, 3) := by decide +kernel
theorem dX10_subtract_5 : decode cX10_subtract 5 = .ok (.aload_n 0, 1) := by decide +kernel
theorem dX10_subtract_6 : decode cX10_subtract 6 = .ok (.iload_n 1, 1) := by decide +kernel
theorem dX10_subtract_7 : decode cX10_subtract 7 = .ok (.iload_n 2, 1) := by decide +kernel
theorem dX10_subtract_8 : decode cX10_subtract 8 = .ok (.invokevirtual 107, 3) := by decide +kernel
theorem dX10_subtract_11 : decode cX10_subtract 11 = .ok (.aload_n 0, 1) := by decide +kernel
theorem dX10_subtract_12 : decode cX10_subtract 12 = .ok (.invokevirtual 101, 3) := by decide +kernel
theorem dX10_subtract_15 : decode cX10_subtract 15 = .ok (.aload_n 0, 1) := by decide +kernel
theorem dX10_subtract_16 : decode cX10_subtract 16 = .ok (.iload_n 1, 1) := by decide +kernel
theorem dX10_subtract_17 : decode cX10_subtract 17 = .ok (.invokevirtual 87, 3) := by decide +kernel
theorem dX10_subtract_20 : decode cX10_subtract 20 = .ok (.aload_n 0, 1) := by decide +kernel
theorem dX10_subtract_21 : decode cX10_subtract 21 = .ok (.getfield 10, 3) := by decide +kernel
theorem dX10_subtract_24 : decode cX10_subtract 24 = .ok (.iload_n 1, 1) := by decide +kernel
theorem dX10_subtract_25 : decode cX10_subtract 25 = .ok (.invokevirtual 104, 3) := by decide +kernel
theorem dX10_subtract_28 : decode cX10_subtract 28 = .ok (.ireturn, 1) := by decide +kernel
theorem dX10_shift_0 : decode cX10_shift 0 = .ok (.iload_n 1, 1) := by decide +kernel
theorem dX10_shift_1 : decode cX10_shift 1 = .ok (.invokestatic 70, 3) := by decide +kernel
theorem dX10_shift_4 : decode cX10_shift 4 = .ok (.iload_n 2, 1) := by decide +kernel
theorem dX10_shift_5 : decode cX10_shift 5 = .ok (.bipush (-3), 2) := by decide +kernel
theorem dX10_shift_7 : decode cX10_shift 7 = .ok (.if_icmp .lt 8, 3) := by decide +kernel
theorem dX10_shift_10 : decode cX10_shift 10 = .ok (.iload_n 2, 1) := by decide +kernel
theorem dX10_shift_11 : decode cX10_shift 11 = .ok (.iconst 3, 1) := by decide +kernel
theorem dX10_shift_12 : decode cX10_shift 12 = .ok (.if_icmp .le 13, 3) := by decide +kernel
theorem dX10_shift_15 : decode cX10_shift 15 = .ok (.new 74, 3) := by decide +kernel
theorem dX10_shift_18 : decode cX10_shift 18 = .ok (.dup, 1) := by decide +kernel
theorem dX10_shift_19 : decode cX10_shift 19 = .ok (.ldc 110, 2) := by decide +kernel
theorem dX10_shift_21 : decode cX10_shift 21 = .ok (.invokespecial 78, 3) := by decide +kernel
theorem dX10_shift_24 : decode cX10_shift 24 = .ok (.athrow, 1) := by decide +kernel
theorem dX10_shift_25 : decode cX10_shift 25 = .ok (.aload_n 0, 1) := by decide +kernel
theorem dX10_shift_26 : decode cX10_shift 26 = .ok (.iload_n 1, 1) := by decide +kernel
theorem dX10_shift_27 : decode cX10_shift 27 = .ok (.iload_n 2, 1) := by decide +kernel
theorem dX10_shift_28 : decode cX10_shift 28 = .ok (.invokevirtual 112, 3) := by decide +kernel
theorem dX10_shift_31 : decode cX10_shift 31 = .ok (.aload_n 0, 1) := by decide +kernel
theorem dX10_shift_32 : decode cX10_shift 32 = .ok (.invokevirtual 101, 3) := by decide +kernel
theorem dX10_shift_35 : decode cX10_shift 35 = .ok (.aload_n 0, 1) := by decide +kernel
theorem dX10_shift_36 : decode cX10_shift 36 = .ok (.iload_n 1, 1) := by decide +kernel
theorem dX10_shift_37 : decode cX10_shift 37 = .ok (.invokevirtual 87, 3) := by decide +kernel
theorem dX10_shift_40 : decode cX10_shift 40 = .ok (.aload_n 0, 1) := by decide +kernel
theorem dX10_shift_41 : decode cX10_shift 41 = .ok (.getfield 10, 3) := by decide +kernel
theorem dX10_shift_44 : decode cX10_shift 44 = .ok (.iload_n 1, 1) := by decide +kernel
theorem dX10_shift_45 : decode cX10_shift 45 = .ok (.invokevirtual 90, 3) := by decide +kernel
theorem dX10_shift_48 : decode cX10_shift 48 = .ok (.ireturn, 1) := by decide +kernel
theorem dX10_pay_0 : decode cX10_pay 0 = .ok (.iload_n 1, 1) := by decide +kernel
theorem dX10_pay_1 : decode cX10_pay 1 = .ok (.iload_n 2, 1) := by decide +kernel
theorem dX10_pay_2 : decode cX10_pay 2 = .ok (.invokestatic 94, 3) := by decide +kernel
theorem dX10_pay_5 : decode cX10_pay 5 = .ok (.iload_n 1, 1) := by decide +kernel
theorem dX10_pay_6 : decode cX10_pay 6 = .ok (.iload_n 2, 1) := by decide +kernel
theorem dX10_pay_7 : decode cX10_pay 7 = .ok (.if_icmp .ne 13, 3) := by decide +kernel
theorem dX10_pay_10 : decode cX10_pay 10 = .ok (.new 74, 3) := by decide +kernel
theorem dX10_pay_13 : decode cX10_pay 13 = .ok (.dup, 1) := by decide +kernel
theorem dX10_pay_14 : decode cX10_pay 14 = .ok (.ldc 115, 2) := by decide +kernel
theorem dX10_pay_16 : decode cX10_pay 16 = .ok (.invokespecial 78, 3) := by decide +kernel
theorem dX10_pay_19 : decode cX10_pay 19 = .ok (.athrow, 1) := by decide +kernel
theorem dX10_pay_20 : decode cX10_pay 20 = .ok (.iload_n 3, 1) := by decide +kernel
theorem dX10_pay_21 : decode cX10_pay 21 = .ok (.iconst 1, 1) := by decide +kernel
theorem dX10_pay_22 : decode cX10_pay 22 = .ok (.if_icmp .lt 9, 3) := by decide +kernel
theorem dX10_pay_25 : decode cX10_pay 25 = .ok (.iload_n 3, 1) := by decide +kernel
theorem dX10_pay_26 : decode cX10_pay 26 = .ok (.ldc 117, 2) := by decide +kernel
theorem dX10_pay_28 : decode cX10_pay 28 = .ok (.if_icmp .le 13, 3) := by decide +kernel
theorem dX10_pay_31 : decode cX10_pay 31 = .ok (.new 74, 3) := by decide +kernel
theorem dX10_pay_34 : decode cX10_pay 34 = .ok (.dup, 1) := by decide +kernel
theorem dX10_pay_35 : decode cX10_pay 35 = .ok (.ldc 118, 2) := by decide +kernel
theorem dX10_pay_37 : decode cX10_pay 37 = .ok (.invokespecial 78, 3) := by decide +kernel
theorem dX10_pay_40 : decode cX10_pay 40 = .ok (.athrow, 1) := by decide +kernel
theorem dX10_pay_41 : decode cX10_pay 41 = .ok (.aload_n 0, 1) := by decide +kernel
theorem dX10_pay_42 : decode cX10_pay 42 = .ok (.iload_n 1, 1) := by decide +kernel
theorem dX10_pay_43 : decode cX10_pay 43 = .ok (.iload_n 3, 1) := by decide +kernel
theorem dX10_pay_44 : decode cX10_pay 44 = .ok (.ineg, 1) := by decide +kernel
theorem dX10_pay_45 : decode cX10_pay 45 = .ok (.i2l, 1) := by decide +kernel
theorem dX10_pay_46 : decode cX10_pay 46 = .ok (.invokevirtual 120, 3) := by decide +kernel
theorem dX10_pay_49 : decode cX10_pay 49 = .ok (.aload_n 0, 1) := by decide +kernel
theorem dX10_pay_50 : decode cX10_pay 50 = .ok (.invokevirtual 101, 3) := by decide +kernel
theorem dX10_pay_53 : decode cX10_pay 53 = .ok (.aload_n 0, 1) := by decide +kernel
theorem dX10_pay_54 : decode cX10_pay 54 = .ok (.iload_n 2, 1) := by decide +kernel
theorem dX10_pay_55 : decode cX10_pay 55 = .ok (.iload_n 3, 1) := by decide +kernel
theorem dX10_pay_56 : decode cX10_pay 56 = .ok (.i2l, 1) := by decide +kernel
theorem dX10_pay_57 : decode cX10_pay 57 = .ok (.invokevirtual 120, 3) := by decide +kernel
theorem dX10_pay_60 : decode cX10_pay 60 = .ok (.aload_n 0, 1) := by decide +kernel
theorem dX10_pay_61 : decode cX10_pay 61 = .ok (.invokevirtual 101, 3) := by decide +kernel
theorem dX10_pay_64 : decode cX10_pay 64 = .ok (.aload_n 0, 1) := by decide +kernel
theorem dX10_pay_65 : decode cX10_pay 65 = .ok (.iload_n 2, 1) := by decide +kernel
theorem dX10_pay_66 : decode cX10_pay 66 = .ok (.invokevirtual 87, 3) := by decide +kernel
theorem dX10_pay_69 : decode cX10_pay 69 = .ok (.aload_n 0, 1) := by decide +kernel
theorem dX10_pay_70 : decode cX10_pay 70 = .ok (.iload_n 1, 1) := by decide +kernel
theorem dX10_pay_71 : decode cX10_pay 71 = .ok (.iload_n 3, 1) := by decide +kernel
theorem dX10_pay_72 : decode cX10_pay 72 = .ok (.ineg, 1) := by decide +kernel
theorem dX10_pay_73 : decode cX10_pay 73 = .ok (.i2l, 1) := by decide +kernel
theorem dX10_pay_74 : decode cX10_pay 74 = .ok (.invokevirtual 120, 3) := by decide +kernel
theorem dX10_pay_77 : decode cX10_pay 77 = .ok (.aload_n 0, 1) := by decide +kernel
theorem dX10_pay_78 : decode cX10_pay 78 = .ok (.getfield 10, 3) := by decide +kernel
theorem dX10_pay_81 : decode cX10_pay 81 = .ok (.iload_n 1, 1) := by decide +kernel
theorem dX10_pay_82 : decode cX10_pay 82 = .ok (.aload_n 0, 1) := by decide +kernel
theorem dX10_pay_83 : decode cX10_pay 83 = .ok (.getfield 40, 3) := by decide +kernel
theorem dX10_pay_86 : decode cX10_pay 86 = .ok (.invokevirtual 124, 3) := by decide +kernel
theorem dX10_pay_89 : decode cX10_pay 89 = .ok (.aload_n 0, 1) := by decide +kernel
theorem dX10_pay_90 : decode cX10_pay 90 = .ok (.getfield 10, 3) := by decide +kernel
theorem dX10_pay_93 : decode cX10_pay 93 = .ok (.iload_n 1, 1) := by decide +kernel
theorem dX10_pay_94 : decode cX10_pay 94 = .ok (.invokevirtual 104, 3) := by decide +kernel
theorem dX10_pay_97 : decode cX10_pay 97 = .ok (.ireturn, 1) := by decide +kernel
theorem dX10_hasStopped_0 : decode cX10_hasStopped 0 = .ok (.aload_n 0, 1) := by decide +kernel
theorem dX10_hasStopped_1 : decode cX10_hasStopped 1 = .ok (.getfield 10, 3) := by decide +kernel
theorem dX10_hasStopped_4 : decode cX10_hasStopped 4 = .ok (.getfield 156, 3) := by decide +kernel
theorem dX10_hasStopped_7 : decode cX10_hasStopped 7 = .ok (.ifCond .eq 7, 3) := by decide +kernel
theorem dX10_hasStopped_10 : decode cX10_hasStopped 10 = .ok (.iconst 1, 1) := by decide +kernel
theorem dX10_hasStopped_11 : decode cX10_hasStopped 11 = .ok (.goto 4, 3) := by decide +kernel
theorem dX10_hasStopped_14 : decode cX10_hasStopped 14 = .ok (.iconst 0, 1) := by decide +kernel
theorem dX10_hasStopped_15 : decode cX10_hasStopped 15 = .ok (.ireturn, 1) := by decide +kernel
theorem dX10_stoppedPart_0 : decode cX10_stoppedPart 0 = .ok (.aload_n 0, 1) := by decide +kernel
theorem dX10_stoppedPart_1 : decode cX10_stoppedPart 1 = .ok (.invokevirtual 159, 3) := by decide +kernel
theorem dX10_stoppedPart_4 : decode cX10_stoppedPart 4 = .ok (.aload_n 0, 1) := by decide +kernel
theorem dX10_stoppedPart_5 : decode cX10_stoppedPart 5 = .ok (.getfield 10, 3) := by decide +kernel
theorem dX10_stoppedPart_8 : decode cX10_stoppedPart 8 = .ok (.getfield 162, 3) := by decide +kernel
theorem dX10_stoppedPart_11 : decode cX10_stoppedPart 11 = .ok (.ireturn, 1) := by decide +kernel
theorem dX10_whyStopped_0 : decode cX10_whyStopped 0 = .ok (.aload_n 0, 1) := by decide +kernel
theorem dX10_whyStopped_1 : decode cX10_whyStopped 1 = .ok (.invokevirtual 159, 3) := by decide +kernel
theorem dX10_whyStopped_4 : decode cX10_whyStopped 4 = .ok (.aload_n 0, 1) := by decide +kernel
theorem dX10_whyStopped_5 : decode cX10_whyStopped 5 = .ok (.getfield 10, 3) := by decide +kernel
theorem dX10_whyStopped_8 : decode cX10_whyStopped 8 = .ok (.getfield 156, 3) := by decide +kernel
theorem dX10_whyStopped_11 : decode cX10_whyStopped 11 = .ok (.ireturn, 1) := by decide +kernel
theorem dX10_undo_0 : decode cX10_undo 0 = .ok (.aload_n 0, 1) := by decide +kernel
theorem dX10_undo_1 : decode cX10_undo 1 = .ok (.getfield 26, 3) := by decide +kernel
theorem dX10_undo_4 : decode cX10_undo 4 = .ok (.getfield 165, 3) := by decide +kernel
theorem dX10_undo_7 : decode cX10_undo 7 = .ok (.ifCond .ne 13, 3) := by decide +kernel
theorem dX10_undo_10 : decode cX10_undo 10 = .ok (.new 133, 3) := by decide +kernel
theorem dX10_undo_13 : decode cX10_undo 13 = .ok (.dup, 1) := by decide +kernel
theorem dX10_undo_14 : decode cX10_undo 14 = .ok (.ldc 168, 2) := by decide +kernel
theorem dX10_undo_16 : decode cX10_undo 16 = .ok (.invokespecial 137, 3) := by decide +kernel
theorem dX10_undo_19 : decode cX10_undo 19 = .ok (.athrow, 1) := by decide +kernel
theorem dX10_undo_20 : decode cX10_undo 20 = .ok (.aload_n 0, 1) := by decide +kernel
theorem dX10_undo_21 : decode cX10_undo 21 = .ok (.getfield 26, 3) := by decide +kernel
theorem dX10_undo_24 : decode cX10_undo 24 = .ok (.aload_n 0, 1) := by decide +kernel
theorem dX10_undo_25 : decode cX10_undo 25 = .ok (.getfield 10, 3) := by decide +kernel
theorem dX10_undo_28 : decode cX10_undo 28 = .ok (.invokevirtual 170, 3) := by decide +kernel
theorem dX10_undo_31 : decode cX10_undo 31 = .ok (.aload_n 0, 1) := by decide +kernel
theorem dX10_undo_32 : decode cX10_undo 32 = .ok (.getfield 26, 3) := by decide +kernel
theorem dX10_undo_35 : decode cX10_undo 35 = .ok (.getfield 165, 3) := by decide +kernel
theorem dX10_undo_38 : decode cX10_undo 38 = .ok (.ireturn, 1) := by decide +kernel
theorem dX10_savedStates_0 : decode cX10_savedStates 0 = .ok (.aload_n 0, 1) := by decide +kernel
theorem dX10_savedStates_1 : decode cX10_savedStates 1 = .ok (.getfield 26, 3) := by decide +kernel
theorem dX10_savedStates_4 : decode cX10_savedStates 4 = .ok (.getfield 165, 3) := by decide +kernel
theorem dX10_savedStates_7 : decode cX10_savedStates 7 = .ok (.ireturn, 1) := by decide +kernel
theorem dX10_base_0 : decode cX10_base 0 = .ok (.aload_n 0, 1) := by decide +kernel
theorem dX10_base_1 : decode cX10_base 1 = .ok (.getfield 10, 3) := by decide +kernel
theorem dX10_base_4 : decode cX10_base 4 = .ok (.getfield 66, 3) := by decide +kernel
theorem dX10_base_7 : decode cX10_base 7 = .ok (.ireturn, 1) := by decide +kernel
theorem dX10_numerator_0 : decode cX10_numerator 0 = .ok (.iload_n 1, 1) := by decide +kernel
theorem dX10_numerator_1 : decode cX10_numerator 1 = .ok (.invokestatic 70, 3) := by decide +kernel
theorem dX10_numerator_4 : decode cX10_numerator 4 = .ok (.aload_n 0, 1) := by decide +kernel
theorem dX10_numerator_5 : decode cX10_numerator 5 = .ok (.getfield 10, 3) := by decide +kernel
theorem dX10_numerator_8 : decode cX10_numerator 8 = .ok (.iload_n 1, 1) := by decide +kernel
theorem dX10_numerator_9 : decode cX10_numerator 9 = .ok (.invokevirtual 104, 3) := by decide +kernel
theorem dX10_numerator_12 : decode cX10_numerator 12 = .ok (.ireturn, 1) := by decide +kernel
theorem dX10_denominator_0 : decode cX10_denominator 0 = .ok (.iload_n 1, 1) := by decide +kernel
theorem dX10_denominator_1 : decode cX10_denominator 1 = .ok (.invokestatic 70, 3) := by decide +kernel
theorem dX10_denominator_4 : decode cX10_denominator 4 = .ok (.aload_n 0, 1) := by decide +kernel
theorem dX10_denominator_5 : decode cX10_denominator 5 = .ok (.getfield 10, 3) := by decide +kernel
theorem dX10_denominator_8 : decode cX10_denominator 8 = .ok (.iload_n 1, 1) := by decide +kernel
theorem dX10_denominator_9 : decode cX10_denominator 9 = .ok (.invokevirtual 90, 3) := by decide +kernel
theorem dX10_denominator_12 : decode cX10_denominator 12 = .ok (.ireturn, 1) := by decide +kernel
theorem dX10_whole_0 : decode cX10_whole 0 = .ok (.iload_n 1, 1) := by decide +kernel
theorem dX10_whole_1 : decode cX10_whole 1 = .ok (.invokestatic 70, 3) := by decide +kernel
theorem dX10_whole_4 : decode cX10_whole 4 = .ok (.aload_n 0, 1) := by decide +kernel
theorem dX10_whole_5 : decode cX10_whole 5 = .ok (.getfield 10, 3) := by decide +kernel
theorem dX10_whole_8 : decode cX10_whole 8 = .ok (.iload_n 1, 1) := by decide +kernel
theorem dX10_whole_9 : decode cX10_whole 9 = .ok (.invokevirtual 178, 3) := by decide +kernel
theorem dX10_whole_12 : decode cX10_whole 12 = .ok (.ireturn, 1) := by decide +kernel
theorem dX10_compare_0 : decode cX10_compare 0 = .ok (.iload_n 1, 1) := by decide +kernel
theorem dX10_compare_1 : decode cX10_compare 1 = .ok (.iload_n 2, 1) := by decide +kernel
theorem dX10_compare_2 : decode cX10_compare 2 = .ok (.invokestatic 94, 3) := by decide +kernel
theorem dX10_compare_5 : decode cX10_compare 5 = .ok (.aload_n 0, 1) := by decide +kernel
theorem dX10_compare_6 : decode cX10_compare 6 = .ok (.iload_n 1, 1) := by decide +kernel
theorem dX10_compare_7 : decode cX10_compare 7 = .ok (.iload_n 2, 1) := by decide +kernel
theorem dX10_compare_8 : decode cX10_compare 8 = .ok (.invokevirtual 181, 3) := by decide +kernel
theorem dX10_compare_11 : decode cX10_compare 11 = .ok (.ireturn, 1) := by decide +kernel
theorem dX10_richest_0 : decode cX10_richest 0 = .ok (.iconst 0, 1) := by decide +kernel
theorem dX10_richest_1 : decode cX10_richest 1 = .ok (.istore_n 1, 1) := by decide +kernel
theorem dX10_richest_2 : decode cX10_richest 2 = .ok (.iconst 1, 1) := by decide +kernel
theorem dX10_richest_3 : decode cX10_richest 3 = .ok (.istore_n 2, 1) := by decide +kernel
theorem dX10_richest_4 : decode cX10_richest 4 = .ok (.iload_n 2, 1) := by decide +kernel
theorem dX10_richest_5 : decode cX10_richest 5 = .ok (.bipush 6, 2) := by decide +kernel
theorem dX10_richest_7 : decode cX10_richest 7 = .ok (.if_icmp .ge 20, 3) := by decide +kernel
theorem dX10_richest_10 : decode cX10_richest 10 = .ok (.aload_n 0, 1) := by decide +kernel
theorem dX10_richest_11 : decode cX10_richest 11 = .ok (.iload_n 2, 1) := by decide +kernel
theorem dX10_richest_12 : decode cX10_richest 12 = .ok (.iload_n 1, 1) := by decide +kernel
theorem dX10_richest_13 : decode cX10_richest 13 = .ok (.invokevirtual 181, 3) := by decide +kernel
theorem dX10_richest_16 : decode cX10_richest 16 = .ok (.ifCond .le 5, 3) := by decide +kernel
theorem dX10_richest_19 : decode cX10_richest 19 = .ok (.iload_n 2, 1) := by decide +kernel
theorem dX10_richest_20 : decode cX10_richest 20 = .ok (.istore_n 1, 1) := by decide +kernel
theorem dX10_richest_21 : decode cX10_richest 21 = .ok (.iinc 2 1, 3) := by decide +kernel
theorem dX10_richest_24 : decode cX10_richest 24 = .ok (.goto (-20), 3) := by decide +kernel
theorem dX10_richest_27 : decode cX10_richest 27 = .ok (.iload_n 1, 1) := by decide +kernel
theorem dX10_richest_28 : decode cX10_richest 28 = .ok (.ireturn, 1) := by decide +kernel
theorem dX10_wholeDigits_0 : decode cX10_wholeDigits 0 = .ok (.iload_n 1, 1) := by decide +kernel
theorem dX10_wholeDigits_1 : decode cX10_wholeDigits 1 = .ok (.invokestatic 70, 3) := by decide +kernel
theorem dX10_wholeDigits_4 : decode cX10_wholeDigits 4 = .ok (.aload_n 0, 1) := by decide +kernel
theorem dX10_wholeDigits_5 : decode cX10_wholeDigits 5 = .ok (.getfield 10, 3) := by decide +kernel
theorem dX10_wholeDigits_8 : decode cX10_wholeDigits 8 = .ok (.iload_n 1, 1) := by decide +kernel
theorem dX10_wholeDigits_9 : decode cX10_wholeDigits 9 = .ok (.invokevirtual 178, 3) := by decide +kernel
theorem dX10_wholeDigits_12 : decode cX10_wholeDigits 12 = .ok (.aload_n 0, 1) := by decide +kernel
theorem dX10_wholeDigits_13 : decode cX10_wholeDigits 13 = .ok (.getfield 10, 3) := by decide +kernel
theorem dX10_wholeDigits_16 : decode cX10_wholeDigits 16 = .ok (.getfield 66, 3) := by decide +kernel
theorem dX10_wholeDigits_19 : decode cX10_wholeDigits 19 = .ok (.invokestatic 185, 3) := by decide +kernel
theorem dX10_wholeDigits_22 : decode cX10_wholeDigits 22 = .ok (.ireturn, 1) := by decide +kernel
theorem dX10_wholeDigit_0 : decode cX10_wholeDigit 0 = .ok (.aload_n 0, 1) := by decide +kernel
theorem dX10_wholeDigit_1 : decode cX10_wholeDigit 1 = .ok (.iload_n 1, 1) := by decide +kernel
theorem dX10_wholeDigit_2 : decode cX10_wholeDigit 2 = .ok (.iload_n 2, 1) := by decide +kernel
theorem dX10_wholeDigit_3 : decode cX10_wholeDigit 3 = .ok (.invokevirtual 189, 3) := by decide +kernel
theorem dX10_wholeDigit_6 : decode cX10_wholeDigit 6 = .ok (.aload_n 0, 1) := by decide +kernel
theorem dX10_wholeDigit_7 : decode cX10_wholeDigit 7 = .ok (.getfield 10, 3) := by decide +kernel
theorem dX10_wholeDigit_10 : decode cX10_wholeDigit 10 = .ok (.iload_n 1, 1) := by decide +kernel
theorem dX10_wholeDigit_11 : decode cX10_wholeDigit 11 = .ok (.invokevirtual 178, 3) := by decide +kernel
theorem dX10_wholeDigit_14 : decode cX10_wholeDigit 14 = .ok (.aload_n 0, 1) := by decide +kernel
theorem dX10_wholeDigit_15 : decode cX10_wholeDigit 15 = .ok (.getfield 10, 3) := by decide +kernel
theorem dX10_wholeDigit_18 : decode cX10_wholeDigit 18 = .ok (.getfield 66, 3) := by decide +kernel
theorem dX10_wholeDigit_21 : decode cX10_wholeDigit 21 = .ok (.iload_n 2, 1) := by decide +kernel
theorem dX10_wholeDigit_22 : decode cX10_wholeDigit 22 = .ok (.invokestatic 192, 3) := by decide +kernel
theorem dX10_wholeDigit_25 : decode cX10_wholeDigit 25 = .ok (.ireturn, 1) := by decide +kernel
theorem dX10_wholeDigitByPowers_0 : decode cX10_wholeDigitByPowers 0 = .ok (.aload_n 0, 1) := by decide +kernel
theorem dX10_wholeDigitByPowers_1 : decode cX10_wholeDigitByPowers 1 = .ok (.iload_n 1, 1) := by decide +kernel
theorem dX10_wholeDigitByPowers_2 : decode cX10_wholeDigitByPowers 2 = .ok (.iload_n 2, 1) := by decide +kernel
theorem dX10_wholeDigitByPowers_3 : decode cX10_wholeDigitByPowers 3 = .ok (.invokevirtual 189, 3) := by decide +kernel
theorem dX10_wholeDigitByPowers_6 : decode cX10_wholeDigitByPowers 6 = .ok (.aload_n 0, 1) := by decide +kernel
theorem dX10_wholeDigitByPowers_7 : decode cX10_wholeDigitByPowers 7 = .ok (.getfield 10, 3) := by decide +kernel
theorem dX10_wholeDigitByPowers_10 : decode cX10_wholeDigitByPowers 10 = .ok (.iload_n 1, 1) := by decide +kernel
theorem dX10_wholeDigitByPowers_11 : decode cX10_wholeDigitByPowers 11 = .ok (.invokevirtual 178, 3) := by decide +kernel
theorem dX10_wholeDigitByPowers_14 : decode cX10_wholeDigitByPowers 14 = .ok (.aload_n 0, 1) := by decide +kernel
theorem dX10_wholeDigitByPowers_15 : decode cX10_wholeDigitByPowers 15 = .ok (.getfield 10, 3) := by decide +kernel
theorem dX10_wholeDigitByPowers_18 : decode cX10_wholeDigitByPowers 18 = .ok (.getfield 66, 3) := by decide +kernel
theorem dX10_wholeDigitByPowers_21 : decode cX10_wholeDigitByPowers 21 = .ok (.iload_n 2, 1) := by decide +kernel
theorem dX10_wholeDigitByPowers_22 : decode cX10_wholeDigitByPowers 22 = .ok (.invokestatic 196, 3) := by decide +kernel
theorem dX10_wholeDigitByPowers_25 : decode cX10_wholeDigitByPowers 25 = .ok (.ireturn, 1) := by decide +kernel
theorem dX10_digitSum_0 : decode cX10_digitSum 0 = .ok (.iload_n 1, 1) := by decide +kernel
theorem dX10_digitSum_1 : decode cX10_digitSum 1 = .ok (.invokestatic 70, 3) := by decide +kernel
theorem dX10_digitSum_4 : decode cX10_digitSum 4 = .ok (.aload_n 0, 1) := by decide +kernel
theorem dX10_digitSum_5 : decode cX10_digitSum 5 = .ok (.getfield 10, 3) := by decide +kernel
theorem dX10_digitSum_8 : decode cX10_digitSum 8 = .ok (.iload_n 1, 1) := by decide +kernel
