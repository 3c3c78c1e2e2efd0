
theorem dL_cell_0 : decode cL_cell 0 = .ok (.iload_n 1, 1) := by decide +kernel
theorem dL_cell_1 : decode cL_cell 1 = .ok (.aload_n 0, 1) := by decide +kernel
theorem dL_cell_2 : decode cL_cell 2 = .ok (.arraylength, 1) := by decide +kernel
theorem dL_cell_3 : decode cL_cell 3 = .ok (.if_icmp .ge 9, 3) := by decide +kernel
theorem dL_cell_6 : decode cL_cell 6 = .ok (.aload_n 0, 1) := by decide +kernel
theorem dL_cell_7 : decode cL_cell 7 = .ok (.iload_n 1, 1) := by decide +kernel
theorem dL_cell_8 : decode cL_cell 8 = .ok (.iaload, 1) := by decide +kernel
theorem dL_cell_9 : decode cL_cell 9 = .ok (.goto 9, 3) := by decide +kernel
theorem dL_cell_12 : decode cL_cell 12 = .ok (.ldc 7, 2) := by decide +kernel
theorem dL_cell_14 : decode cL_cell 14 = .ok (.iload_n 1, 1) := by decide +kernel
theorem dL_cell_15 : decode cL_cell 15 = .ok (.iconst 2, 1) := by decide +kernel
theorem dL_cell_16 : decode cL_cell 16 = .ok (.iadd, 1) := by decide +kernel
theorem dL_cell_17 : decode cL_cell 17 = .ok (.imul, 1) := by decide +kernel
theorem dL_cell_18 : decode cL_cell 18 = .ok (.ireturn, 1) := by decide +kernel
theorem dL_low_0 : decode cL_low 0 = .ok (.iload_n 0, 1) := by decide +kernel
theorem dL_low_1 : decode cL_low 1 = .ok (.iconst 1, 1) := by decide +kernel
theorem dL_low_2 : decode cL_low 2 = .ok (.iushr, 1) := by decide +kernel
theorem dL_low_3 : decode cL_low 3 = .ok (.iload_n 1, 1) := by decide +kernel
theorem dL_low_4 : decode cL_low 4 = .ok (.irem, 1) := by decide +kernel
theorem dL_low_5 : decode cL_low 5 = .ok (.ireturn, 1) := by decide +kernel
theorem dL_send_0 : decode cL_send 0 = .ok (.aload_n 0, 1) := by decide +kernel
theorem dL_send_1 : decode cL_send 1 = .ok (.iload_n 1, 1) := by decide +kernel
theorem dL_send_2 : decode cL_send 2 = .ok (.invokevirtual 8, 3) := by decide +kernel
theorem dL_send_5 : decode cL_send 5 = .ok (.istore_n 2, 1) := by decide +kernel
theorem dL_send_6 : decode cL_send 6 = .ok (.goto 11, 3) := by decide +kernel
theorem dL_send_9 : decode cL_send 9 = .ok (.astore_n 3, 1) := by decide +kernel
theorem dL_send_10 : decode cL_send 10 = .ok (.bipush (-71), 2) := by decide +kernel
theorem dL_send_12 : decode cL_send 12 = .ok (.ireturn, 1) := by decide +kernel
theorem dL_send_13 : decode cL_send 13 = .ok (.astore_n 3, 1) := by decide +kernel
theorem dL_send_14 : decode cL_send 14 = .ok (.bipush (-72), 2) := by decide +kernel
theorem dL_send_16 : decode cL_send 16 = .ok (.ireturn, 1) := by decide +kernel
theorem dL_send_17 : decode cL_send 17 = .ok (.iload_n 2, 1) := by decide +kernel
theorem dL_send_18 : decode cL_send 18 = .ok (.ireturn, 1) := by decide +kernel
theorem dL_arrive_0 : decode cL_arrive 0 = .ok (.aload_n 0, 1) := by decide +kernel
theorem dL_arrive_1 : decode cL_arrive 1 = .ok (.iload_n 1, 1) := by decide +kernel
theorem dL_arrive_2 : decode cL_arrive 2 = .ok (.iload_n 2, 1) := by decide +kernel
theorem dL_arrive_3 : decode cL_arrive 3 = .ok (.invokevirtual 18, 3) := by decide +kernel
theorem dL_arrive_6 : decode cL_arrive 6 = .ok (.istore_n 3, 1) := by decide +kernel
theorem dL_arrive_7 : decode cL_arrive 7 = .ok (.goto 13, 3) := by decide +kernel
theorem dL_arrive_10 : decode cL_arrive 10 = .ok (.astore 4, 2) := by decide +kernel
theorem dL_arrive_12 : decode cL_arrive 12 = .ok (.bipush (-71), 2) := by decide +kernel
theorem dL_arrive_14 : decode cL_arrive 14 = .ok (.ireturn, 1) := by decide +kernel
theorem dL_arrive_15 : decode cL_arrive 15 = .ok (.astore 4, 2) := by decide +kernel
theorem dL_arrive_17 : decode cL_arrive 17 = .ok (.bipush (-72), 2) := by decide +kernel
theorem dL_arrive_19 : decode cL_arrive 19 = .ok (.ireturn, 1) := by decide +kernel
theorem dL_arrive_20 : decode cL_arrive 20 = .ok (.iload_n 3, 1) := by decide +kernel
theorem dL_arrive_21 : decode cL_arrive 21 = .ok (.ireturn, 1) := by decide +kernel
theorem dL_lose_0 : decode cL_lose 0 = .ok (.aload_n 0, 1) := by decide +kernel
theorem dL_lose_1 : decode cL_lose 1 = .ok (.iload_n 1, 1) := by decide +kernel
theorem dL_lose_2 : decode cL_lose 2 = .ok (.iload_n 2, 1) := by decide +kernel
theorem dL_lose_3 : decode cL_lose 3 = .ok (.invokevirtual 22, 3) := by decide +kernel
theorem dL_lose_6 : decode cL_lose 6 = .ok (.goto 11, 3) := by decide +kernel
theorem dL_lose_9 : decode cL_lose 9 = .ok (.astore_n 3, 1) := by decide +kernel
theorem dL_lose_10 : decode cL_lose 10 = .ok (.bipush (-71), 2) := by decide +kernel
theorem dL_lose_12 : decode cL_lose 12 = .ok (.ireturn, 1) := by decide +kernel
theorem dL_lose_13 : decode cL_lose 13 = .ok (.astore_n 3, 1) := by decide +kernel
theorem dL_lose_14 : decode cL_lose 14 = .ok (.bipush (-72), 2) := by decide +kernel
theorem dL_lose_16 : decode cL_lose 16 = .ok (.ireturn, 1) := by decide +kernel
theorem dL_lose_17 : decode cL_lose 17 = .ok (.iconst 0, 1) := by decide +kernel
theorem dL_lose_18 : decode cL_lose 18 = .ok (.ireturn, 1) := by decide +kernel
theorem dL_sendAgain_0 : decode cL_sendAgain 0 = .ok (.aload_n 0, 1) := by decide +kernel
theorem dL_sendAgain_1 : decode cL_sendAgain 1 = .ok (.iload_n 1, 1) := by decide +kernel
theorem dL_sendAgain_2 : decode cL_sendAgain 2 = .ok (.iload_n 2, 1) := by decide +kernel
theorem dL_sendAgain_3 : decode cL_sendAgain 3 = .ok (.invokevirtual 26, 3) := by decide +kernel
theorem dL_sendAgain_6 : decode cL_sendAgain 6 = .ok (.goto 11, 3) := by decide +kernel
theorem dL_sendAgain_9 : decode cL_sendAgain 9 = .ok (.astore_n 3, 1) := by decide +kernel
theorem dL_sendAgain_10 : decode cL_sendAgain 10 = .ok (.bipush (-71), 2) := by decide +kernel
theorem dL_sendAgain_12 : decode cL_sendAgain 12 = .ok (.ireturn, 1) := by decide +kernel
theorem dL_sendAgain_13 : decode cL_sendAgain 13 = .ok (.astore_n 3, 1) := by decide +kernel
theorem dL_sendAgain_14 : decode cL_sendAgain 14 = .ok (.bipush (-72), 2) := by decide +kernel
theorem dL_sendAgain_16 : decode cL_sendAgain 16 = .ok (.ireturn, 1) := by decide +kernel
theorem dL_sendAgain_17 : decode cL_sendAgain 17 = .ok (.iconst 0, 1) := by decide +kernel
theorem dL_sendAgain_18 : decode cL_sendAgain 18 = .ok (.ireturn, 1) := by decide +kernel
theorem dL_passToken_0 : decode cL_passToken 0 = .ok (.aload_n 0, 1) := by decide +kernel
theorem dL_passToken_1 : decode cL_passToken 1 = .ok (.iload_n 1, 1) := by decide +kernel
theorem dL_passToken_2 : decode cL_passToken 2 = .ok (.invokevirtual 29, 3) := by decide +kernel
theorem dL_passToken_5 : decode cL_passToken 5 = .ok (.istore_n 2, 1) := by decide +kernel
theorem dL_passToken_6 : decode cL_passToken 6 = .ok (.goto 11, 3) := by decide +kernel
theorem dL_passToken_9 : decode cL_passToken 9 = .ok (.astore_n 3, 1) := by decide +kernel
theorem dL_passToken_10 : decode cL_passToken 10 = .ok (.bipush (-71), 2) := by decide +kernel
theorem dL_passToken_12 : decode cL_passToken 12 = .ok (.ireturn, 1) := by decide +kernel
theorem dL_passToken_13 : decode cL_passToken 13 = .ok (.astore_n 3, 1) := by decide +kernel
theorem dL_passToken_14 : decode cL_passToken 14 = .ok (.bipush (-72), 2) := by decide +kernel
theorem dL_passToken_16 : decode cL_passToken 16 = .ok (.ireturn, 1) := by decide +kernel
theorem dL_passToken_17 : decode cL_passToken 17 = .ok (.iload_n 2, 1) := by decide +kernel
theorem dL_passToken_18 : decode cL_passToken 18 = .ok (.ireturn, 1) := by decide +kernel
theorem dL_tell_0 : decode cL_tell 0 = .ok (.aload_n 0, 1) := by decide +kernel
theorem dL_tell_1 : decode cL_tell 1 = .ok (.iload_n 1, 1) := by decide +kernel
theorem dL_tell_2 : decode cL_tell 2 = .ok (.invokevirtual 32, 3) := by decide +kernel
theorem dL_tell_5 : decode cL_tell 5 = .ok (.istore_n 2, 1) := by decide +kernel
theorem dL_tell_6 : decode cL_tell 6 = .ok (.goto 11, 3) := by decide +kernel
theorem dL_tell_9 : decode cL_tell 9 = .ok (.astore_n 3, 1) := by decide +kernel
theorem dL_tell_10 : decode cL_tell 10 = .ok (.bipush (-71), 2) := by decide +kernel
theorem dL_tell_12 : decode cL_tell 12 = .ok (.ireturn, 1) := by decide +kernel
theorem dL_tell_13 : decode cL_tell 13 = .ok (.astore_n 3, 1) := by decide +kernel
theorem dL_tell_14 : decode cL_tell 14 = .ok (.bipush (-72), 2) := by decide +kernel
theorem dL_tell_16 : decode cL_tell 16 = .ok (.ireturn, 1) := by decide +kernel
theorem dL_tell_17 : decode cL_tell 17 = .ok (.iload_n 2, 1) := by decide +kernel
theorem dL_tell_18 : decode cL_tell 18 = .ok (.ireturn, 1) := by decide +kernel
theorem dL_fail_0 : decode cL_fail 0 = .ok (.aload_n 0, 1) := by decide +kernel
theorem dL_fail_1 : decode cL_fail 1 = .ok (.iload_n 1, 1) := by decide +kernel
theorem dL_fail_2 : decode cL_fail 2 = .ok (.invokevirtual 35, 3) := by decide +kernel
theorem dL_fail_5 : decode cL_fail 5 = .ok (.goto 11, 3) := by decide +kernel
theorem dL_fail_8 : decode cL_fail 8 = .ok (.astore_n 2, 1) := by decide +kernel
theorem dL_fail_9 : decode cL_fail 9 = .ok (.bipush (-71), 2) := by decide +kernel
theorem dL_fail_11 : decode cL_fail 11 = .ok (.ireturn, 1) := by decide +kernel
theorem dL_fail_12 : decode cL_fail 12 = .ok (.astore_n 2, 1) := by decide +kernel
theorem dL_fail_13 : decode cL_fail 13 = .ok (.bipush (-72), 2) := by decide +kernel
theorem dL_fail_15 : decode cL_fail 15 = .ok (.ireturn, 1) := by decide +kernel
theorem dL_fail_16 : decode cL_fail 16 = .ok (.iconst 0, 1) := by decide +kernel
theorem dL_fail_17 : decode cL_fail 17 = .ok (.ireturn, 1) := by decide +kernel
theorem dL_flush_0 : decode cL_flush 0 = .ok (.aload_n 0, 1) := by decide +kernel
theorem dL_flush_1 : decode cL_flush 1 = .ok (.invokevirtual 39, 3) := by decide +kernel
theorem dL_flush_4 : decode cL_flush 4 = .ok (.istore_n 1, 1) := by decide +kernel
theorem dL_flush_5 : decode cL_flush 5 = .ok (.goto 7, 3) := by decide +kernel
theorem dL_flush_8 : decode cL_flush 8 = .ok (.astore_n 2, 1) := by decide +kernel
theorem dL_flush_9 : decode cL_flush 9 = .ok (.bipush (-72), 2) := by decide +kernel
theorem dL_flush_11 : decode cL_flush 11 = .ok (.ireturn, 1) := by decide +kernel
theorem dL_flush_12 : decode cL_flush 12 = .ok (.iload_n 1, 1) := by decide +kernel
theorem dL_flush_13 : decode cL_flush 13 = .ok (.ireturn, 1) := by decide +kernel
theorem dL_copy_0 : decode cL_copy 0 = .ok (.aload_n 0, 1) := by decide +kernel
theorem dL_copy_1 : decode cL_copy 1 = .ok (.iload_n 1, 1) := by decide +kernel
theorem dL_copy_2 : decode cL_copy 2 = .ok (.iload_n 2, 1) := by decide +kernel
theorem dL_copy_3 : decode cL_copy 3 = .ok (.invokevirtual 43, 3) := by decide +kernel
theorem dL_copy_6 : decode cL_copy 6 = .ok (.istore_n 3, 1) := by decide +kernel
theorem dL_copy_7 : decode cL_copy 7 = .ok (.goto 8, 3) := by decide +kernel
theorem dL_copy_10 : decode cL_copy 10 = .ok (.astore 4, 2) := by decide +kernel
theorem dL_copy_12 : decode cL_copy 12 = .ok (.bipush (-71), 2) := by decide +kernel
theorem dL_copy_14 : decode cL_copy 14 = .ok (.ireturn, 1) := by decide +kernel
theorem dL_copy_15 : decode cL_copy 15 = .ok (.iload_n 3, 1) := by decide +kernel
theorem dL_copy_16 : decode cL_copy 16 = .ok (.ireturn, 1) := by decide +kernel
theorem dL_agreedAt_0 : decode cL_agreedAt 0 = .ok (.aload_n 0, 1) := by decide +kernel
theorem dL_agreedAt_1 : decode cL_agreedAt 1 = .ok (.iload_n 1, 1) := by decide +kernel
theorem dL_agreedAt_2 : decode cL_agreedAt 2 = .ok (.invokevirtual 46, 3) := by decide +kernel
theorem dL_agreedAt_5 : decode cL_agreedAt 5 = .ok (.istore_n 2, 1) := by decide +kernel
theorem dL_agreedAt_6 : decode cL_agreedAt 6 = .ok (.goto 7, 3) := by decide +kernel
theorem dL_agreedAt_9 : decode cL_agreedAt 9 = .ok (.astore_n 3, 1) := by decide +kernel
theorem dL_agreedAt_10 : decode cL_agreedAt 10 = .ok (.bipush (-71), 2) := by decide +kernel
theorem dL_agreedAt_12 : decode cL_agreedAt 12 = .ok (.ireturn, 1) := by decide +kernel
theorem dL_agreedAt_13 : decode cL_agreedAt 13 = .ok (.iload_n 2, 1) := by decide +kernel
theorem dL_agreedAt_14 : decode cL_agreedAt 14 = .ok (.ireturn, 1) := by decide +kernel
theorem dL_deliveredAt_0 : decode cL_deliveredAt 0 = .ok (.aload_n 0, 1) := by decide +kernel
theorem dL_deliveredAt_1 : decode cL_deliveredAt 1 = .ok (.iload_n 1, 1) := by decide +kernel
theorem dL_deliveredAt_2 : decode cL_deliveredAt 2 = .ok (.iload_n 2, 1) := by decide +kernel
theorem dL_deliveredAt_3 : decode cL_deliveredAt 3 = .ok (.invokevirtual 49, 3) := by decide +kernel
theorem dL_deliveredAt_6 : decode cL_deliveredAt 6 = .ok (.istore_n 3, 1) := by decide +kernel
theorem dL_deliveredAt_7 : decode cL_deliveredAt 7 = .ok (.goto 8, 3) := by decide +kernel
theorem dL_deliveredAt_10 : decode cL_deliveredAt 10 = .ok (.astore 4, 2) := by decide +kernel
theorem dL_deliveredAt_12 : decode cL_deliveredAt 12 = .ok (.bipush (-71), 2) := by decide +kernel
theorem dL_deliveredAt_14 : decode cL_deliveredAt 14 = .ok (.ireturn, 1) := by decide +kernel
theorem dL_deliveredAt_15 : decode cL_deliveredAt 15 = .ok (.iload_n 3, 1) := by decide +kernel
theorem dL_deliveredAt_16 : decode cL_deliveredAt 16 = .ok (.ireturn, 1) := by decide +kernel
theorem dL_waitingAt_0 : decode cL_waitingAt 0 = .ok (.aload_n 0, 1) := by decide +kernel
theorem dL_waitingAt_1 : decode cL_waitingAt 1 = .ok (.iload_n 1, 1) := by decide +kernel
theorem dL_waitingAt_2 : decode cL_waitingAt 2 = .ok (.iload_n 2, 1) := by decide +kernel
theorem dL_waitingAt_3 : decode cL_waitingAt 3 = .ok (.invokevirtual 52, 3) := by decide +kernel
theorem dL_waitingAt_6 : decode cL_waitingAt 6 = .ok (.istore_n 3, 1) := by decide +kernel
theorem dL_waitingAt_7 : decode cL_waitingAt 7 = .ok (.goto 8, 3) := by decide +kernel
theorem dL_waitingAt_10 : decode cL_waitingAt 10 = .ok (.astore 4, 2) := by decide +kernel
theorem dL_waitingAt_12 : decode cL_waitingAt 12 = .ok (.bipush (-71), 2) := by decide +kernel
theorem dL_waitingAt_14 : decode cL_waitingAt 14 = .ok (.ireturn, 1) := by decide +kernel
theorem dL_waitingAt_15 : decode cL_waitingAt 15 = .ok (.iload_n 3, 1) := by decide +kernel
theorem dL_waitingAt_16 : decode cL_waitingAt 16 = .ok (.ireturn, 1) := by decide +kernel
theorem dL_many_0 : decode cL_many 0 = .ok (.iconst 0, 1) := by decide +kernel
theorem dL_many_1 : decode cL_many 1 = .ok (.istore_n 2, 1) := by decide +kernel
theorem dL_many_2 : decode cL_many 2 = .ok (.lload_n 0, 1) := by decide +kernel
theorem dL_many_3 : decode cL_many 3 = .ok (.lstore_n 3, 1) := by decide +kernel
theorem dL_many_4 : decode cL_many 4 = .ok (.lload_n 3, 1) := by decide +kernel
theorem dL_many_5 : decode cL_many 5 = .ok (.lconst 0, 1) := by decide +kernel
theorem dL_many_6 : decode cL_many 6 = .ok (.lcmp, 1) := by decide +kernel
theorem dL_many_7 : decode cL_many 7 = .ok (.ifCond .eq 15, 3) := by decide +kernel
theorem dL_many_10 : decode cL_many 10 = .ok (.iinc 2 1, 3) := by decide +kernel
theorem dL_many_13 : decode cL_many 13 = .ok (.lload_n 3, 1) := by decide +kernel
theorem dL_many_14 : decode cL_many 14 = .ok (.lload_n 3, 1) := by decide +kernel
theorem dL_many_15 : decode cL_many 15 = .ok (.lconst 1, 1) := by decide +kernel
theorem dL_many_16 : decode cL_many 16 = .ok (.lsub, 1) := by decide +kernel
theorem dL_many_17 : decode cL_many 17 = .ok (.land, 1) := by decide +kernel
theorem dL_many_18 : decode cL_many 18 = .ok (.lstore_n 3, 1) := by decide +kernel
theorem dL_many_19 : decode cL_many 19 = .ok (.goto (-15), 3) := by decide +kernel
theorem dL_many_22 : decode cL_many 22 = .ok (.iload_n 2, 1) := by decide +kernel
theorem dL_many_23 : decode cL_many 23 = .ok (.ireturn, 1) := by decide +kernel
theorem dL_at_0 : decode cL_at 0 = .ok (.lload_n 0, 1) := by decide +kernel
theorem dL_at_1 : decode cL_at 1 = .ok (.bipush 12, 2) := by decide +kernel
theorem dL_at_3 : decode cL_at 3 = .ok (.iload_n 2, 1) := by decide +kernel
theorem dL_at_4 : decode cL_at 4 = .ok (.imul, 1) := by decide +kernel
theorem dL_at_5 : decode cL_at 5 = .ok (.lshr, 1) := by decide +kernel
theorem dL_at_6 : decode cL_at 6 = .ok (.ldc2_w 55, 3) := by decide +kernel
theorem dL_at_9 : decode cL_at 9 = .ok (.land, 1) := by decide +kernel
theorem dL_at_10 : decode cL_at 10 = .ok (.l2i, 1) := by decide +kernel
theorem dL_at_11 : decode cL_at 11 = .ok (.ireturn, 1) := by decide +kernel
theorem dL_with_0 : decode cL_with 0 = .ok (.lload_n 0, 1) := by decide +kernel
theorem dL_with_1 : decode cL_with 1 = .ok (.ldc2_w 55, 3) := by decide +kernel
theorem dL_with_4 : decode cL_with 4 = .ok (.bipush 12, 2) := by decide +kernel
theorem dL_with_6 : decode cL_with 6 = .ok (.iload_n 2, 1) := by decide +kernel
theorem dL_with_7 : decode cL_with 7 = .ok (.imul, 1) := by decide +kernel
theorem dL_with_8 : decode cL_with 8 = .ok (.lshl, 1) := by decide +kernel
theorem dL_with_9 : decode cL_with 9 = .ok (.ldc2_w 57, 3) := by decide +kernel
theorem dL_with_12 : decode cL_with 12 = .ok (.lxor, 1) := by decide +kernel
theorem dL_with_13 : decode cL_with 13 = .ok (.land, 1) := by decide +kernel
theorem dL_with_14 : decode cL_with 14 = .ok (.iload_n 3, 1) := by decide +kernel
theorem dL_with_15 : decode cL_with 15 = .ok (.i2l, 1) := by decide +kernel
theorem dL_with_16 : decode cL_with 16 = .ok (.bipush 12, 2) := by decide +kernel
theorem dL_with_18 : decode cL_with 18 = .ok (.iload_n 2, 1) := by decide +kernel
theorem dL_with_19 : decode cL_with 19 = .ok (.imul, 1) := by decide +kernel
theorem dL_with_20 : decode cL_with 20 = .ok (.lshl, 1) := by decide +kernel
theorem dL_with_21 : decode cL_with 21 = .ok (.lor, 1) := by decide +kernel
theorem dL_with_22 : decode cL_with 22 = .ok (.lreturn, 1) := by decide +kernel
theorem dL_state_0 : decode cL_state 0 = .ok (.aload_n 0, 1) := by decide +kernel
theorem dL_state_1 : decode cL_state 1 = .ok (.iload_n 1, 1) := by decide +kernel
theorem dL_state_2 : decode cL_state 2 = .ok (.iaload, 1) := by decide +kernel
theorem dL_state_3 : decode cL_state 3 = .ok (.iconst 3, 1) := by decide +kernel
theorem dL_state_4 : decode cL_state 4 = .ok (.iload_n 2, 1) := by decide +kernel
theorem dL_state_5 : decode cL_state 5 = .ok (.imul, 1) := by decide +kernel
theorem dL_state_6 : decode cL_state 6 = .ok (.ishr, 1) := by decide +kernel
theorem dL_state_7 : decode cL_state 7 = .ok (.bipush 7, 2) := by decide +kernel
theorem dL_state_9 : decode cL_state 9 = .ok (.iand, 1) := by decide +kernel
theorem dL_state_10 : decode cL_state 10 = .ok (.ireturn, 1) := by decide +kernel
theorem dL_becomes_0 : decode cL_becomes 0 = .ok (.aload_n 0, 1) := by decide +kernel
theorem dL_becomes_1 : decode cL_becomes 1 = .ok (.iload_n 1, 1) := by decide +kernel
theorem dL_becomes_2 : decode cL_becomes 2 = .ok (.aload_n 0, 1) := by decide +kernel
theorem dL_becomes_3 : decode cL_becomes 3 = .ok (.iload_n 1, 1) := by decide +kernel
theorem dL_becomes_4 : decode cL_becomes 4 = .ok (.iaload, 1) := by decide +kernel
theorem dL_becomes_5 : decode cL_becomes 5 = .ok (.bipush 7, 2) := by decide +kernel
theorem dL_becomes_7 : decode cL_becomes 7 = .ok (.iconst 3, 1) := by decide +kernel
theorem dL_becomes_8 : decode cL_becomes 8 = .ok (.iload_n 2, 1) := by decide +kernel
theorem dL_becomes_9 : decode cL_becomes 9 = .ok (.imul, 1) := by decide +kernel
theorem dL_becomes_10 : decode cL_becomes 10 = .ok (.ishl, 1) := by decide +kernel
theorem dL_becomes_11 : decode cL_becomes 11 = .ok (.iconst (-1), 1) := by decide +kernel
theorem dL_becomes_12 : decode cL_becomes 12 = .ok (.ixor, 1) := by decide +kernel
theorem dL_becomes_13 : decode cL_becomes 13 = .ok (.iand, 1) := by decide +kernel
theorem dL_becomes_14 : decode cL_becomes 14 = .ok (.iload_n 3, 1) := by decide +kernel
theorem dL_becomes_15 : decode cL_becomes 15 = .ok (.iconst 3, 1) := by decide +kernel
theorem dL_becomes_16 : decode cL_becomes 16 = .ok (.iload_n 2, 1) := by decide +kernel
theorem dL_becomes_17 : decode cL_becomes 17 = .ok (.imul, 1) := by decide +kernel
theorem dL_becomes_18 : decode cL_becomes 18 = .ok (.ishl, 1) := by decide +kernel
theorem dL_becomes_19 : decode cL_becomes 19 = .ok (.ior, 1) := by decide +kernel
theorem dL_becomes_20 : decode cL_becomes 20 = .ok (.iastore, 1) := by decide +kernel
theorem dL_becomes_21 : decode cL_becomes 21 = .ok (.return_, 1) := by decide +kernel
theorem dL_has_0 : decode cL_has 0 = .ok (.iload_n 0, 1) := by decide +kernel
theorem dL_has_1 : decode cL_has 1 = .ok (.iload_n 1, 1) := by decide +kernel
theorem dL_has_2 : decode cL_has 2 = .ok (.ishr, 1) := by decide +kernel
theorem dL_has_3 : decode cL_has 3 = .ok (.iconst 1, 1) := by decide +kernel
theorem dL_has_4 : decode cL_has 4 = .ok (.iand, 1) := by decide +kernel
theorem dL_has_5 : decode cL_has 5 = .ok (.iconst 1, 1) := by decide +kernel
theorem dL_has_6 : decode cL_has 6 = .ok (.if_icmp .ne 7, 3) := by decide +kernel
theorem dL_has_9 : decode cL_has 9 = .ok (.iconst 1, 1) := by decide +kernel
theorem dL_has_10 : decode cL_has 10 = .ok (.goto 4, 3) := by decide +kernel
theorem dL_has_13 : decode cL_has 13 = .ok (.iconst 0, 1) := by decide +kernel
theorem dL_has_14 : decode cL_has 14 = .ok (.ireturn, 1) := by decide +kernel
theorem dL_delivers_0 : decode cL_delivers 0 = .ok (.aload_n 0, 1) := by decide +kernel
theorem dL_delivers_1 : decode cL_delivers 1 = .ok (.iload 5, 2) := by decide +kernel
theorem dL_delivers_3 : decode cL_delivers 3 = .ok (.iload 6, 2) := by decide +kernel
theorem dL_delivers_5 : decode cL_delivers 5 = .ok (.iconst 2, 1) := by decide +kernel
theorem dL_delivers_6 : decode cL_delivers 6 = .ok (.invokestatic 59, 3) := by decide +kernel
theorem dL_delivers_9 : decode cL_delivers 9 = .ok (.aload_n 1, 1) := by decide +kernel
theorem dL_delivers_10 : decode cL_delivers 10 = .ok (.iload 6, 2) := by decide +kernel
theorem dL_delivers_12 : decode cL_delivers 12 = .ok (.dup2, 1) := by decide +kernel
theorem dL_delivers_13 : decode cL_delivers 13 = .ok (.laload, 1) := by decide +kernel
theorem dL_delivers_14 : decode cL_delivers 14 = .ok (.lconst 1, 1) := by decide +kernel
theorem dL_delivers_15 : decode cL_delivers 15 = .ok (.iload 5, 2) := by decide +kernel
theorem dL_delivers_17 : decode cL_delivers 17 = .ok (.lshl, 1) := by decide +kernel
theorem dL_delivers_18 : decode cL_delivers 18 = .ok (.lor, 1) := by decide +kernel
theorem dL_delivers_19 : decode cL_delivers 19 = .ok (.lastore, 1) := by decide +kernel
theorem dL_delivers_20 : decode cL_delivers 20 = .ok (.aload_n 2, 1) := by decide +kernel
theorem dL_delivers_21 : decode cL_delivers 21 = .ok (.iload 5, 2) := by decide +kernel
theorem dL_delivers_23 : decode cL_delivers 23 = .ok (.aload_n 2, 1) := by decide +kernel
theorem dL_delivers_24 : decode cL_delivers 24 = .ok (.iload 5, 2) := by decide +kernel
theorem dL_delivers_26 : decode cL_delivers 26 = .ok (.laload, 1) := by decide +kernel
theorem dL_delivers_27 : decode cL_delivers 27 = .ok (.iload 6, 2) := by decide +kernel
theorem dL_delivers_29 : decode cL_delivers 29 = .ok (.aload_n 1, 1) := by decide +kernel
theorem dL_delivers_30 : decode cL_delivers 30 = .ok (.iload 6, 2) := by decide +kernel
theorem dL_delivers_32 : decode cL_delivers 32 = .ok (.laload, 1) := by decide +kernel
theorem dL_delivers_33 : decode cL_delivers 33 = .ok (.invokestatic 65, 3) := by decide +kernel
theorem dL_delivers_36 : decode cL_delivers 36 = .ok (.invokestatic 69, 3) := by decide +kernel
theorem dL_delivers_39 : decode cL_delivers 39 = .ok (.lastore, 1) := by decide +kernel
theorem dL_delivers_40 : decode cL_delivers 40 = .ok (.aload 4, 2) := by decide +kernel
theorem dL_delivers_42 : decode cL_delivers 42 = .ok (.iconst 3, 1) := by decide +kernel
theorem dL_delivers_43 : decode cL_delivers 43 = .ok (.iaload, 1) := by decide +kernel
theorem dL_delivers_44 : decode cL_delivers 44 = .ok (.iload 6, 2) := by decide +kernel
theorem dL_delivers_46 : decode cL_delivers 46 = .ok (.if_icmp .eq 4, 3) := by decide +kernel
theorem dL_delivers_49 : decode cL_delivers 49 = .ok (.return_, 1) := by decide +kernel
theorem dL_delivers_50 : decode cL_delivers 50 = .ok (.aload_n 3, 1) := by decide +kernel
theorem dL_delivers_51 : decode cL_delivers 51 = .ok (.iload 5, 2) := by decide +kernel
theorem dL_delivers_53 : decode cL_delivers 53 = .ok (.aload 4, 2) := by decide +kernel
theorem dL_delivers_55 : decode cL_delivers 55 = .ok (.iconst 5, 1) := by decide +kernel
theorem dL_delivers_56 : decode cL_delivers 56 = .ok (.iaload, 1) := by decide +kernel
theorem dL_delivers_57 : decode cL_delivers 57 = .ok (.iastore, 1) := by decide +kernel
theorem dL_delivers_58 : decode cL_delivers 58 = .ok (.aload 4, 2) := by decide +kernel
theorem dL_delivers_60 : decode cL_delivers 60 = .ok (.iconst 5, 1) := by decide +kernel
theorem dL_delivers_61 : decode cL_delivers 61 = .ok (.dup2, 1) := by decide +kernel
theorem dL_delivers_62 : decode cL_delivers 62 = .ok (.iaload, 1) := by decide +kernel
theorem dL_delivers_63 : decode cL_delivers 63 = .ok (.iconst 1, 1) := by decide +kernel
theorem dL_delivers_64 : decode cL_delivers 64 = .ok (.iadd, 1) := by decide +kernel
theorem dL_delivers_65 : decode cL_delivers 65 = .ok (.iastore, 1) := by decide +kernel
theorem dL_delivers_66 : decode cL_delivers 66 = .ok (.return_, 1) := by decide +kernel
theorem dL_comes_0 : decode cL_comes 0 = .ok (.aload_n 0, 1) := by decide +kernel
theorem dL_comes_1 : decode cL_comes 1 = .ok (.iload 7, 2) := by decide +kernel
theorem dL_comes_3 : decode cL_comes 3 = .ok (.iload 8, 2) := by decide +kernel
theorem dL_comes_5 : decode cL_comes 5 = .ok (.iconst 1, 1) := by decide +kernel
theorem dL_comes_6 : decode cL_comes 6 = .ok (.invokestatic 59, 3) := by decide +kernel
theorem dL_comes_9 : decode cL_comes 9 = .ok (.aload 6, 2) := by decide +kernel
theorem dL_comes_11 : decode cL_comes 11 = .ok (.bipush 7, 2) := by decide +kernel
theorem dL_comes_13 : decode cL_comes 13 = .ok (.dup2, 1) := by decide +kernel
theorem dL_comes_14 : decode cL_comes 14 = .ok (.iaload, 1) := by decide +kernel
theorem dL_comes_15 : decode cL_comes 15 = .ok (.iconst 1, 1) := by decide +kernel
theorem dL_comes_16 : decode cL_comes 16 = .ok (.iadd, 1) := by decide +kernel
theorem dL_comes_17 : decode cL_comes 17 = .ok (.iastore, 1) := by decide +kernel
theorem dL_comes_18 : decode cL_comes 18 = .ok (.aload 4, 2) := by decide +kernel
theorem dL_comes_20 : decode cL_comes 20 = .ok (.iload 7, 2) := by decide +kernel
theorem dL_comes_22 : decode cL_comes 22 = .ok (.aload 4, 2) := by decide +kernel
theorem dL_comes_24 : decode cL_comes 24 = .ok (.iload 7, 2) := by decide +kernel
theorem dL_comes_26 : decode cL_comes 26 = .ok (.laload, 1) := by decide +kernel
theorem dL_comes_27 : decode cL_comes 27 = .ok (.iload 8, 2) := by decide +kernel
theorem dL_comes_29 : decode cL_comes 29 = .ok (.aload 6, 2) := by decide +kernel
theorem dL_comes_31 : decode cL_comes 31 = .ok (.bipush 7, 2) := by decide +kernel
theorem dL_comes_33 : decode cL_comes 33 = .ok (.iaload, 1) := by decide +kernel
theorem dL_comes_34 : decode cL_comes 34 = .ok (.invokestatic 69, 3) := by decide +kernel
theorem dL_comes_37 : decode cL_comes 37 = .ok (.lastore, 1) := by decide +kernel
theorem dL_comes_38 : decode cL_comes 38 = .ok (.iconst 0, 1) := by decide +kernel
theorem dL_comes_39 : decode cL_comes 39 = .ok (.istore 9, 2) := by decide +kernel
theorem dL_comes_41 : decode cL_comes 41 = .ok (.iconst (-1), 1) := by decide +kernel
theorem dL_comes_42 : decode cL_comes 42 = .ok (.istore 10, 2) := by decide +kernel
theorem dL_comes_44 : decode cL_comes 44 = .ok (.iconst 0, 1) := by decide +kernel
theorem dL_comes_45 : decode cL_comes 45 = .ok (.istore 11, 2) := by decide +kernel
theorem dL_comes_47 : decode cL_comes 47 = .ok (.iload 11, 2) := by decide +kernel
theorem dL_comes_49 : decode cL_comes 49 = .ok (.aload 6, 2) := by decide +kernel
theorem dL_comes_51 : decode cL_comes 51 = .ok (.iconst 0, 1) := by decide +kernel
theorem dL_comes_52 : decode cL_comes 52 = .ok (.iaload, 1) := by decide +kernel
theorem dL_comes_53 : decode cL_comes 53 = .ok (.if_icmp .ge 71, 3) := by decide +kernel
theorem dL_comes_56 : decode cL_comes 56 = .ok (.aload_n 0, 1) := by decide +kernel
theorem dL_comes_57 : decode cL_comes 57 = .ok (.iload 11, 2) := by decide +kernel
theorem dL_comes_59 : decode cL_comes 59 = .ok (.iload 8, 2) := by decide +kernel
theorem dL_comes_61 : decode cL_comes 61 = .ok (.invokestatic 73, 3) := by decide +kernel
theorem dL_comes_64 : decode cL_comes 64 = .ok (.iconst 1, 1) := by decide +kernel
theorem dL_comes_65 : decode cL_comes 65 = .ok (.if_icmp .ne 53, 3) := by decide +kernel
theorem dL_comes_68 : decode cL_comes 68 = .ok (.aload_n 1, 1) := by decide +kernel
theorem dL_comes_69 : decode cL_comes 69 = .ok (.iload 11, 2) := by decide +kernel
theorem dL_comes_71 : decode cL_comes 71 = .ok (.laload, 1) := by decide +kernel
theorem dL_comes_72 : decode cL_comes 72 = .ok (.aload_n 2, 1) := by decide +kernel
theorem dL_comes_73 : decode cL_comes 73 = .ok (.iload 8, 2) := by decide +kernel
theorem dL_comes_75 : decode cL_comes 75 = .ok (.laload, 1) := by decide +kernel
theorem dL_comes_76 : decode cL_comes 76 = .ok (.ldc2_w 57, 3) := by decide +kernel
theorem dL_comes_79 : decode cL_comes 79 = .ok (.lxor, 1) := by decide +kernel
theorem dL_comes_80 : decode cL_comes 80 = .ok (.land, 1) := by decide +kernel
theorem dL_comes_81 : decode cL_comes 81 = .ok (.lconst 0, 1) := by decide +kernel
theorem dL_comes_82 : decode cL_comes 82 = .ok (.lcmp, 1) := by decide +kernel
theorem dL_comes_83 : decode cL_comes 83 = .ok (.ifCond .ne 35, 3) := by decide +kernel
theorem dL_comes_86 : decode cL_comes 86 = .ok (.iload 10, 2) := by decide +kernel
theorem dL_comes_88 : decode cL_comes 88 = .ok (.ifCond .lt 26, 3) := by decide +kernel
theorem dL_comes_91 : decode cL_comes 91 = .ok (.aload 4, 2) := by decide +kernel
theorem dL_comes_93 : decode cL_comes 93 = .ok (.iload 11, 2) := by decide +kernel
theorem dL_comes_95 : decode cL_comes 95 = .ok (.laload, 1) := by decide +kernel
theorem dL_comes_96 : decode cL_comes 96 = .ok (.iload 8, 2) := by decide +kernel
theorem dL_comes_98 : decode cL_comes 98 = .ok (.invokestatic 77, 3) := by decide +kernel
theorem dL_comes_101 : decode cL_comes 101 = .ok (.aload 4, 2) := by decide +kernel
theorem dL_comes_103 : decode cL_comes 103 = .ok (.iload 10, 2) := by decide +kernel
theorem dL_comes_105 : decode cL_comes 105 = .ok (.laload, 1) := by decide +kernel
theorem dL_comes_106 : decode cL_comes 106 = .ok (.iload 8, 2) := by decide +kernel
theorem dL_comes_108 : decode cL_comes 108 = .ok (.invokestatic 77, 3) := by decide +kernel
theorem dL_comes_111 : decode cL_comes 111 = .ok (.if_icmp .ge 7, 3) := by decide +kernel
theorem dL_comes_114 : decode cL_comes 114 = .ok (.iload 11, 2) := by decide +kernel
theorem dL_comes_116 : decode cL_comes 116 = .ok (.istore 10, 2) := by decide +kernel
theorem dL_comes_118 : decode cL_comes 118 = .ok (.iinc 11 1, 3) := by decide +kernel
theorem dL_comes_121 : decode cL_comes 121 = .ok (.goto (-74), 3) := by decide +kernel
theorem dL_comes_124 : decode cL_comes 124 = .ok (.iload 10, 2) := by decide +kernel
theorem dL_comes_126 : decode cL_comes 126 = .ok (.ifCond .ge 6, 3) := by decide +kernel
theorem dL_comes_129 : decode cL_comes 129 = .ok (.iload 9, 2) := by decide +kernel
theorem dL_comes_131 : decode cL_comes 131 = .ok (.ireturn, 1) := by decide +kernel
theorem dL_comes_132 : decode cL_comes 132 = .ok (.aload_n 0, 1) := by decide +kernel
theorem dL_comes_133 : decode cL_comes 133 = .ok (.aload_n 2, 1) := by decide +kernel
theorem dL_comes_134 : decode cL_comes 134 = .ok (.aload_n 3, 1) := by decide +kernel
theorem dL_comes_135 : decode cL_comes 135 = .ok (.aload 5, 2) := by decide +kernel
theorem dL_comes_137 : decode cL_comes 137 = .ok (.aload 6, 2) := by decide +kernel
theorem dL_comes_139 : decode cL_comes 139 = .ok (.iload 10, 2) := by decide +kernel
theorem dL_comes_141 : decode cL_comes 141 = .ok (.iload 8, 2) := by decide +kernel
theorem dL_comes_143 : decode cL_comes 143 = .ok (.invokestatic 81, 3) := by decide +kernel
theorem dL_comes_146 : decode cL_comes 146 = .ok (.iinc 9 1, 3) := by decide +kernel
theorem dL_comes_149 : decode cL_comes 149 = .ok (.goto (-108), 3) := by decide +kernel
theorem dL_proposes_0 : decode cL_proposes 0 = .ok (.aload_n 2, 1) := by decide +kernel
theorem dL_proposes_1 : decode cL_proposes 1 = .ok (.iload 5, 2) := by decide +kernel
theorem dL_proposes_3 : decode cL_proposes 3 = .ok (.iconst 1, 1) := by decide +kernel
theorem dL_proposes_4 : decode cL_proposes 4 = .ok (.aload_n 2, 1) := by decide +kernel
theorem dL_proposes_5 : decode cL_proposes 5 = .ok (.iload 5, 2) := by decide +kernel
theorem dL_proposes_7 : decode cL_proposes 7 = .ok (.iaload, 1) := by decide +kernel
theorem dL_proposes_8 : decode cL_proposes 8 = .ok (.aload_n 3, 1) := by decide +kernel
theorem dL_proposes_9 : decode cL_proposes 9 = .ok (.bipush 6, 2) := by decide +kernel
theorem dL_proposes_11 : decode cL_proposes 11 = .ok (.iaload, 1) := by decide +kernel
theorem dL_proposes_12 : decode cL_proposes 12 = .ok (.if_icmp .le 10, 3) := by decide +kernel
theorem dL_proposes_15 : decode cL_proposes 15 = .ok (.aload_n 2, 1) := by decide +kernel
theorem dL_proposes_16 : decode cL_proposes 16 = .ok (.iload 5, 2) := by decide +kernel
theorem dL_proposes_18 : decode cL_proposes 18 = .ok (.iaload, 1) := by decide +kernel
theorem dL_proposes_19 : decode cL_proposes 19 = .ok (.goto 7, 3) := by decide +kernel
theorem dL_proposes_22 : decode cL_proposes 22 = .ok (.aload_n 3, 1) := by decide +kernel
theorem dL_proposes_23 : decode cL_proposes 23 = .ok (.bipush 6, 2) := by decide +kernel
theorem dL_proposes_25 : decode cL_proposes 25 = .ok (.iaload, 1) := by decide +kernel
theorem dL_proposes_26 : decode cL_proposes 26 = .ok (.iadd, 1) := by decide +kernel
theorem dL_proposes_27 : decode cL_proposes 27 = .ok (.iastore, 1) := by decide +kernel
theorem dL_proposes_28 : decode cL_proposes 28 = .ok (.aload_n 0, 1) := by decide +kernel
theorem dL_proposes_29 : decode cL_proposes 29 = .ok (.iload 4, 2) := by decide +kernel
theorem dL_proposes_31 : decode cL_proposes 31 = .ok (.aload_n 0, 1) := by decide +kernel
theorem dL_proposes_32 : decode cL_proposes 32 = .ok (.iload 4, 2) := by decide +kernel
theorem dL_proposes_34 : decode cL_proposes 34 = .ok (.laload, 1) := by decide +kernel
theorem dL_proposes_35 : decode cL_proposes 35 = .ok (.iload 5, 2) := by decide +kernel
theorem dL_proposes_37 : decode cL_proposes 37 = .ok (.aload_n 2, 1) := by decide +kernel
theorem dL_proposes_38 : decode cL_proposes 38 = .ok (.iload 5, 2) := by decide +kernel
theorem dL_proposes_40 : decode cL_proposes 40 = .ok (.iaload, 1) := by decide +kernel
theorem dL_proposes_41 : decode cL_proposes 41 = .ok (.invokestatic 69, 3) := by decide +kernel
theorem dL_proposes_44 : decode cL_proposes 44 = .ok (.lastore, 1) := by decide +kernel
theorem dL_proposes_45 : decode cL_proposes 45 = .ok (.iconst 0, 1) := by decide +kernel
theorem dL_proposes_46 : decode cL_proposes 46 = .ok (.istore 6, 2) := by decide +kernel
theorem dL_proposes_48 : decode cL_proposes 48 = .ok (.iconst 0, 1) := by decide +kernel
theorem dL_proposes_49 : decode cL_proposes 49 = .ok (.istore 7, 2) := by decide +kernel
theorem dL_proposes_51 : decode cL_proposes 51 = .ok (.iload 7, 2) := by decide +kernel
theorem dL_proposes_53 : decode cL_proposes 53 = .ok (.iconst 4, 1) := by decide +kernel
theorem dL_proposes_54 : decode cL_proposes 54 = .ok (.if_icmp .ge 66, 3) := by decide +kernel
theorem dL_proposes_57 : decode cL_proposes 57 = .ok (.aload_n 3, 1) := by decide +kernel
theorem dL_proposes_58 : decode cL_proposes 58 = .ok (.iconst 2, 1) := by decide +kernel
theorem dL_proposes_59 : decode cL_proposes 59 = .ok (.iaload, 1) := by decide +kernel
theorem dL_proposes_60 : decode cL_proposes 60 = .ok (.iload 7, 2) := by decide +kernel
theorem dL_proposes_62 : decode cL_proposes 62 = .ok (.invokestatic 85, 3) := by decide +kernel
theorem dL_proposes_65 : decode cL_proposes 65 = .ok (.ifCond .eq 6, 3) := by decide +kernel
theorem dL_proposes_68 : decode cL_proposes 68 = .ok (.goto 46, 3) := by decide +kernel
theorem dL_proposes_71 : decode cL_proposes 71 = .ok (.aload_n 0, 1) := by decide +kernel
theorem dL_proposes_72 : decode cL_proposes 72 = .ok (.iload 4, 2) := by decide +kernel
theorem dL_proposes_74 : decode cL_proposes 74 = .ok (.laload, 1) := by decide +kernel
theorem dL_proposes_75 : decode cL_proposes 75 = .ok (.iload 7, 2) := by decide +kernel
theorem dL_proposes_77 : decode cL_proposes 77 = .ok (.invokestatic 77, 3) := by decide +kernel
theorem dL_proposes_80 : decode cL_proposes 80 = .ok (.ifCond .ne 4, 3) := by decide +kernel
theorem dL_proposes_83 : decode cL_proposes 83 = .ok (.return_, 1) := by decide +kernel
theorem dL_proposes_84 : decode cL_proposes 84 = .ok (.aload_n 0, 1) := by decide +kernel
theorem dL_proposes_85 : decode cL_proposes 85 = .ok (.iload 4, 2) := by decide +kernel
theorem dL_proposes_87 : decode cL_proposes 87 = .ok (.laload, 1) := by decide +kernel
theorem dL_proposes_88 : decode cL_proposes 88 = .ok (.iload 7, 2) := by decide +kernel
theorem dL_proposes_90 : decode cL_proposes 90 = .ok (.invokestatic 77, 3) := by decide +kernel
theorem dL_proposes_93 : decode cL_proposes 93 = .ok (.iload 6, 2) := by decide +kernel
theorem dL_proposes_95 : decode cL_proposes 95 = .ok (.if_icmp .le 15, 3) := by decide +kernel
theorem dL_proposes_98 : decode cL_proposes 98 = .ok (.aload_n 0, 1) := by decide +kernel
theorem dL_proposes_99 : decode cL_proposes 99 = .ok (.iload 4, 2) := by decide +kernel
theorem dL_proposes_101 : decode cL_proposes 101 = .ok (.laload, 1) := by decide +kernel
theorem dL_proposes_102 : decode cL_proposes 102 = .ok (.iload 7, 2) := by decide +kernel
theorem dL_proposes_104 : decode cL_proposes 104 = .ok (.invokestatic 77, 3) := by decide +kernel
theorem dL_proposes_107 : decode cL_proposes 107 = .ok (.goto 5, 3) := by decide +kernel
theorem dL_proposes_110 : decode cL_proposes 110 = .ok (.iload 6, 2) := by decide +kernel
theorem dL_proposes_112 : decode cL_proposes 112 = .ok (.istore 6, 2) := by decide +kernel
theorem dL_proposes_114 : decode cL_proposes 114 = .ok (.iinc 7 1, 3) := by decide +kernel
theorem dL_proposes_117 : decode cL_proposes 117 = .ok (.goto (-66), 3) := by decide +kernel
theorem dL_proposes_120 : decode cL_proposes 120 = .ok (.aload_n 1, 1) := by decide +kernel
theorem dL_proposes_121 : decode cL_proposes 121 = .ok (.iload 4, 2) := by decide +kernel
theorem dL_proposes_123 : decode cL_proposes 123 = .ok (.iload 6, 2) := by decide +kernel
theorem dL_proposes_125 : decode cL_proposes 125 = .ok (.iastore, 1) := by decide +kernel
theorem dL_proposes_126 : decode cL_proposes 126 = .ok (.aload_n 3, 1) := by decide +kernel
theorem dL_proposes_127 : decode cL_proposes 127 = .ok (.bipush 6, 2) := by decide +kernel
theorem dL_proposes_129 : decode cL_proposes 129 = .ok (.iload 6, 2) := by decide +kernel
theorem dL_proposes_131 : decode cL_proposes 131 = .ok (.iastore, 1) := by decide +kernel
theorem dL_proposes_132 : decode cL_proposes 132 = .ok (.return_, 1) := by decide +kernel
theorem dL_sends_0 : decode cL_sends 0 = .ok (.aload 8, 2) := by decide +kernel
theorem dL_sends_2 : decode cL_sends 2 = .ok (.iconst 0, 1) := by decide +kernel
theorem dL_sends_3 : decode cL_sends 3 = .ok (.iaload, 1) := by decide +kernel
theorem dL_sends_4 : decode cL_sends 4 = .ok (.istore 10, 2) := by decide +kernel
theorem dL_sends_6 : decode cL_sends 6 = .ok (.aload 8, 2) := by decide +kernel
theorem dL_sends_8 : decode cL_sends 8 = .ok (.iconst 0, 1) := by decide +kernel
theorem dL_sends_9 : decode cL_sends 9 = .ok (.dup2, 1) := by decide +kernel
theorem dL_sends_10 : decode cL_sends 10 = .ok (.iaload, 1) := by decide +kernel
theorem dL_sends_11 : decode cL_sends 11 = .ok (.iconst 1, 1) := by decide +kernel
theorem dL_sends_12 : decode cL_sends 12 = .ok (.iadd, 1) := by decide +kernel
theorem dL_sends_13 : decode cL_sends 13 = .ok (.iastore, 1) := by decide +kernel
theorem dL_sends_14 : decode cL_sends 14 = .ok (.aload_n 1, 1) := by decide +kernel
theorem dL_sends_15 : decode cL_sends 15 = .ok (.iload 10, 2) := by decide +kernel
theorem dL_sends_17 : decode cL_sends 17 = .ok (.aload_n 2, 1) := by decide +kernel
theorem dL_sends_18 : decode cL_sends 18 = .ok (.iload 9, 2) := by decide +kernel
theorem dL_sends_20 : decode cL_sends 20 = .ok (.laload, 1) := by decide +kernel
theorem dL_sends_21 : decode cL_sends 21 = .ok (.lastore, 1) := by decide +kernel
theorem dL_sends_22 : decode cL_sends 22 = .ok (.aload_n 2, 1) := by decide +kernel
theorem dL_sends_23 : decode cL_sends 23 = .ok (.iconst 4, 1) := by decide +kernel
theorem dL_sends_24 : decode cL_sends 24 = .ok (.iload 9, 2) := by decide +kernel
theorem dL_sends_26 : decode cL_sends 26 = .ok (.iadd, 1) := by decide +kernel
theorem dL_sends_27 : decode cL_sends 27 = .ok (.dup2, 1) := by decide +kernel
theorem dL_sends_28 : decode cL_sends 28 = .ok (.laload, 1) := by decide +kernel
theorem dL_sends_29 : decode cL_sends 29 = .ok (.lconst 1, 1) := by decide +kernel
theorem dL_sends_30 : decode cL_sends 30 = .ok (.iload 10, 2) := by decide +kernel
theorem dL_sends_32 : decode cL_sends 32 = .ok (.lshl, 1) := by decide +kernel
theorem dL_sends_33 : decode cL_sends 33 = .ok (.lor, 1) := by decide +kernel
theorem dL_sends_34 : decode cL_sends 34 = .ok (.lastore, 1) := by decide +kernel
theorem dL_sends_35 : decode cL_sends 35 = .ok (.aload_n 0, 1) := by decide +kernel
theorem dL_sends_36 : decode cL_sends 36 = .ok (.iload 10, 2) := by decide +kernel
theorem dL_sends_38 : decode cL_sends 38 = .ok (.iconst 0, 1) := by decide +kernel
theorem dL_sends_39 : decode cL_sends 39 = .ok (.iastore, 1) := by decide +kernel
theorem dL_sends_40 : decode cL_sends 40 = .ok (.aload_n 3, 1) := by decide +kernel
theorem dL_sends_41 : decode cL_sends 41 = .ok (.iload 10, 2) := by decide +kernel
theorem dL_sends_43 : decode cL_sends 43 = .ok (.lconst 0, 1) := by decide +kernel
theorem dL_sends_44 : decode cL_sends 44 = .ok (.lastore, 1) := by decide +kernel
theorem dL_sends_45 : decode cL_sends 45 = .ok (.aload 4, 2) := by decide +kernel
theorem dL_sends_47 : decode cL_sends 47 = .ok (.iload 10, 2) := by decide +kernel
theorem dL_sends_49 : decode cL_sends 49 = .ok (.lconst 0, 1) := by decide +kernel
theorem dL_sends_50 : decode cL_sends 50 = .ok (.lastore, 1) := by decide +kernel
theorem dL_sends_51 : decode cL_sends 51 = .ok (.aload 5, 2) := by decide +kernel
theorem dL_sends_53 : decode cL_sends 53 = .ok (.iload 10, 2) := by decide +kernel
theorem dL_sends_55 : decode cL_sends 55 = .ok (.iconst (-1), 1) := by decide +kernel
theorem dL_sends_56 : decode cL_sends 56 = .ok (.iastore, 1) := by decide +kernel
theorem dL_sends_57 : decode cL_sends 57 = .ok (.aload 6, 2) := by decide +kernel
theorem dL_sends_59 : decode cL_sends 59 = .ok (.iload 10, 2) := by decide +kernel
theorem dL_sends_61 : decode cL_sends 61 = .ok (.iconst (-1), 1) := by decide +kernel
theorem dL_sends_62 : decode cL_sends 62 = .ok (.iastore, 1) := by decide +kernel
theorem dL_sends_63 : decode cL_sends 63 = .ok (.iconst 0, 1) := by decide +kernel
theorem dL_sends_64 : decode cL_sends 64 = .ok (.istore 11, 2) := by decide +kernel
theorem dL_sends_66 : decode cL_sends 66 = .ok (.iload 11, 2) := by decide +kernel
theorem dL_sends_68 : decode cL_sends 68 = .ok (.iconst 4, 1) := by decide +kernel
theorem dL_sends_69 : decode cL_sends 69 = .ok (.if_icmp .ge 30, 3) := by decide +kernel
theorem dL_sends_72 : decode cL_sends 72 = .ok (.aload 8, 2) := by decide +kernel
theorem dL_sends_74 : decode cL_sends 74 = .ok (.iconst 2, 1) := by decide +kernel
theorem dL_sends_75 : decode cL_sends 75 = .ok (.iaload, 1) := by decide +kernel
theorem dL_sends_76 : decode cL_sends 76 = .ok (.iload 11, 2) := by decide +kernel
theorem dL_sends_78 : decode cL_sends 78 = .ok (.invokestatic 85, 3) := by decide +kernel
theorem dL_sends_81 : decode cL_sends 81 = .ok (.ifCond .eq 12, 3) := by decide +kernel
theorem dL_sends_84 : decode cL_sends 84 = .ok (.aload_n 0, 1) := by decide +kernel
theorem dL_sends_85 : decode cL_sends 85 = .ok (.iload 10, 2) := by decide +kernel
theorem dL_sends_87 : decode cL_sends 87 = .ok (.iload 11, 2) := by decide +kernel
theorem dL_sends_89 : decode cL_sends 89 = .ok (.iconst 3, 1) := by decide +kernel
theorem dL_sends_90 : decode cL_sends 90 = .ok (.invokestatic 59, 3) := by decide +kernel
theorem dL_sends_93 : decode cL_sends 93 = .ok (.iinc 11 1, 3) := by decide +kernel
theorem dL_sends_96 : decode cL_sends 96 = .ok (.goto (-30), 3) := by decide +kernel
theorem dL_sends_99 : decode cL_sends 99 = .ok (.aload_n 0, 1) := by decide +kernel
theorem dL_sends_100 : decode cL_sends 100 = .ok (.aload_n 2, 1) := by decide +kernel
theorem dL_sends_101 : decode cL_sends 101 = .ok (.aload_n 3, 1) := by decide +kernel
theorem dL_sends_102 : decode cL_sends 102 = .ok (.aload 5, 2) := by decide +kernel
theorem dL_sends_104 : decode cL_sends 104 = .ok (.aload 8, 2) := by decide +kernel
theorem dL_sends_106 : decode cL_sends 106 = .ok (.iload 10, 2) := by decide +kernel
theorem dL_sends_108 : decode cL_sends 108 = .ok (.iload 9, 2) := by decide +kernel
theorem dL_sends_110 : decode cL_sends 110 = .ok (.invokestatic 81, 3) := by decide +kernel
theorem dL_sends_113 : decode cL_sends 113 = .ok (.aload 4, 2) := by decide +kernel
theorem dL_sends_115 : decode cL_sends 115 = .ok (.aload 6, 2) := by decide +kernel
theorem dL_sends_117 : decode cL_sends 117 = .ok (.aload 7, 2) := by decide +kernel
theorem dL_sends_119 : decode cL_sends 119 = .ok (.aload 8, 2) := by decide +kernel
theorem dL_sends_121 : decode cL_sends 121 = .ok (.iload 10, 2) := by decide +kernel
theorem dL_sends_123 : decode cL_sends 123 = .ok (.iload 9, 2) := by decide +kernel
theorem dL_sends_125 : decode cL_sends 125 = .ok (.invokestatic 89, 3) := by decide +kernel
theorem dL_sends_128 : decode cL_sends 128 = .ok (.iload 10, 2) := by decide +kernel
theorem dL_sends_130 : decode cL_sends 130 = .ok (.ireturn, 1) := by decide +kernel
theorem dL_knows_0 : decode cL_knows 0 = .ok (.aload_n 1, 1) := by decide +kernel
theorem dL_knows_1 : decode cL_knows 1 = .ok (.iconst 3, 1) := by decide +kernel
theorem dL_knows_2 : decode cL_knows 2 = .ok (.iaload, 1) := by decide +kernel
theorem dL_knows_3 : decode cL_knows 3 = .ok (.iload_n 2, 1) := by decide +kernel
theorem dL_knows_4 : decode cL_knows 4 = .ok (.if_icmp .ne 9, 3) := by decide +kernel
theorem dL_knows_7 : decode cL_knows 7 = .ok (.aload_n 1, 1) := by decide +kernel
theorem dL_knows_8 : decode cL_knows 8 = .ok (.iconst 5, 1) := by decide +kernel
theorem dL_knows_9 : decode cL_knows 9 = .ok (.iaload, 1) := by decide +kernel
theorem dL_knows_10 : decode cL_knows 10 = .ok (.goto 8, 3) := by decide +kernel
theorem dL_knows_13 : decode cL_knows 13 = .ok (.aload_n 0, 1) := by decide +kernel
theorem dL_knows_14 : decode cL_knows 14 = .ok (.iconst 4, 1) := by decide +kernel
theorem dL_knows_15 : decode cL_knows 15 = .ok (.iload_n 2, 1) := by decide +kernel
theorem dL_knows_16 : decode cL_knows 16 = .ok (.iadd, 1) := by decide +kernel
theorem dL_knows_17 : decode cL_knows 17 = .ok (.iaload, 1) := by decide +kernel
theorem dL_knows_18 : decode cL_knows 18 = .ok (.ireturn, 1) := by decide +kernel
theorem dL_ordered_0 : decode cL_ordered 0 = .ok (.aload_n 2, 1) := by decide +kernel
theorem dL_ordered_1 : decode cL_ordered 1 = .ok (.aload_n 3, 1) := by decide +kernel
theorem dL_ordered_2 : decode cL_ordered 2 = .ok (.iload 4, 2) := by decide +kernel
theorem dL_ordered_4 : decode cL_ordered 4 = .ok (.invokestatic 93, 3) := by decide +kernel
theorem dL_ordered_7 : decode cL_ordered 7 = .ok (.istore 5, 2) := by decide +kernel
theorem dL_ordered_9 : decode cL_ordered 9 = .ok (.iconst 0, 1) := by decide +kernel
theorem dL_ordered_10 : decode cL_ordered 10 = .ok (.istore 6, 2) := by decide +kernel
theorem dL_ordered_12 : decode cL_ordered 12 = .ok (.iload 6, 2) := by decide +kernel
theorem dL_ordered_14 : decode cL_ordered 14 = .ok (.aload_n 3, 1) := by decide +kernel
theorem dL_ordered_15 : decode cL_ordered 15 = .ok (.iconst 0, 1) := by decide +kernel
theorem dL_ordered_16 : decode cL_ordered 16 = .ok (.iaload, 1) := by decide +kernel
theorem dL_ordered_17 : decode cL_ordered 17 = .ok (.if_icmp .ge 45, 3) := by decide +kernel
theorem dL_ordered_20 : decode cL_ordered 20 = .ok (.aload_n 1, 1) := by decide +kernel
theorem dL_ordered_21 : decode cL_ordered 21 = .ok (.iload 6, 2) := by decide +kernel
theorem dL_ordered_23 : decode cL_ordered 23 = .ok (.iaload, 1) := by decide +kernel
theorem dL_ordered_24 : decode cL_ordered 24 = .ok (.ifCond .lt 32, 3) := by decide +kernel
theorem dL_ordered_27 : decode cL_ordered 27 = .ok (.aload_n 1, 1) := by decide +kernel
theorem dL_ordered_28 : decode cL_ordered 28 = .ok (.iload 6, 2) := by decide +kernel
theorem dL_ordered_30 : decode cL_ordered 30 = .ok (.iaload, 1) := by decide +kernel
theorem dL_ordered_31 : decode cL_ordered 31 = .ok (.iload 5, 2) := by decide +kernel
theorem dL_ordered_33 : decode cL_ordered 33 = .ok (.if_icmp .ge 23, 3) := by decide +kernel
theorem dL_ordered_36 : decode cL_ordered 36 = .ok (.aload_n 0, 1) := by decide +kernel
theorem dL_ordered_37 : decode cL_ordered 37 = .ok (.iload 4, 2) := by decide +kernel
theorem dL_ordered_39 : decode cL_ordered 39 = .ok (.laload, 1) := by decide +kernel
theorem dL_ordered_40 : decode cL_ordered 40 = .ok (.iload 6, 2) := by decide +kernel
theorem dL_ordered_42 : decode cL_ordered 42 = .ok (.lshr, 1) := by decide +kernel
theorem dL_ordered_43 : decode cL_ordered 43 = .ok (.lconst 1, 1) := by decide +kernel
theorem dL_ordered_44 : decode cL_ordered 44 = .ok (.land, 1) := by decide +kernel
theorem dL_ordered_45 : decode cL_ordered 45 = .ok (.lconst 0, 1) := by decide +kernel
theorem dL_ordered_46 : decode cL_ordered 46 = .ok (.lcmp, 1) := by decide +kernel
theorem dL_ordered_47 : decode cL_ordered 47 = .ok (.ifCond .ne 9, 3) := by decide +kernel
theorem dL_ordered_50 : decode cL_ordered 50 = .ok (.aload_n 1, 1) := by decide +kernel
theorem dL_ordered_51 : decode cL_ordered 51 = .ok (.iload 6, 2) := by decide +kernel
theorem dL_ordered_53 : decode cL_ordered 53 = .ok (.iaload, 1) := by decide +kernel
theorem dL_ordered_54 : decode cL_ordered 54 = .ok (.istore 5, 2) := by decide +kernel
theorem dL_ordered_56 : decode cL_ordered 56 = .ok (.iinc 6 1, 3) := by decide +kernel
theorem dL_ordered_59 : decode cL_ordered 59 = .ok (.goto (-47), 3) := by decide +kernel
theorem dL_ordered_62 : decode cL_ordered 62 = .ok (.iload 5, 2) := by decide +kernel
theorem dL_ordered_64 : decode cL_ordered 64 = .ok (.ireturn, 1) := by decide +kernel
theorem dL_holds_0 : decode cL_holds 0 = .ok (.aload 4, 2) := by decide +kernel
theorem dL_holds_2 : decode cL_holds 2 = .ok (.iconst 4, 1) := by decide +kernel
theorem dL_holds_3 : decode cL_holds 3 = .ok (.aload 5, 2) := by decide +kernel
theorem dL_holds_5 : decode cL_holds 5 = .ok (.iconst 3, 1) := by decide +kernel
theorem dL_holds_6 : decode cL_holds 6 = .ok (.iaload, 1) := by decide +kernel
theorem dL_holds_7 : decode cL_holds 7 = .ok (.iadd, 1) := by decide +kernel
theorem dL_holds_8 : decode cL_holds 8 = .ok (.aload 5, 2) := by decide +kernel
theorem dL_holds_10 : decode cL_holds 10 = .ok (.iconst 5, 1) := by decide +kernel
theorem dL_holds_11 : decode cL_holds 11 = .ok (.iaload, 1) := by decide +kernel
theorem dL_holds_12 : decode cL_holds 12 = .ok (.iastore, 1) := by decide +kernel
theorem dL_holds_13 : decode cL_holds 13 = .ok (.aload 5, 2) := by decide +kernel
theorem dL_holds_15 : decode cL_holds 15 = .ok (.iconst 3, 1) := by decide +kernel
theorem dL_holds_16 : decode cL_holds 16 = .ok (.iload 6, 2) := by decide +kernel
theorem dL_holds_18 : decode cL_holds 18 = .ok (.iastore, 1) := by decide +kernel
theorem dL_holds_19 : decode cL_holds 19 = .ok (.iconst 0, 1) := by decide +kernel
theorem dL_holds_20 : decode cL_holds 20 = .ok (.istore 7, 2) := by decide +kernel
theorem dL_holds_22 : decode cL_holds 22 = .ok (.iconst 1, 1) := by decide +kernel
theorem dL_holds_23 : decode cL_holds 23 = .ok (.istore 8, 2) := by decide +kernel
theorem dL_holds_25 : decode cL_holds 25 = .ok (.iload 8, 2) := by decide +kernel
theorem dL_holds_27 : decode cL_holds 27 = .ok (.aload_n 1, 1) := by decide +kernel
theorem dL_holds_28 : decode cL_holds 28 = .ok (.iload 6, 2) := by decide +kernel
theorem dL_holds_30 : decode cL_holds 30 = .ok (.laload, 1) := by decide +kernel
theorem dL_holds_31 : decode cL_holds 31 = .ok (.invokestatic 65, 3) := by decide +kernel
theorem dL_holds_34 : decode cL_holds 34 = .ok (.if_icmp .gt 82, 3) := by decide +kernel
theorem dL_holds_37 : decode cL_holds 37 = .ok (.iconst 0, 1) := by decide +kernel
theorem dL_holds_38 : decode cL_holds 38 = .ok (.istore 9, 2) := by decide +kernel
theorem dL_holds_40 : decode cL_holds 40 = .ok (.iload 9, 2) := by decide +kernel
theorem dL_holds_42 : decode cL_holds 42 = .ok (.aload 5, 2) := by decide +kernel
theorem dL_holds_44 : decode cL_holds 44 = .ok (.iconst 0, 1) := by decide +kernel
theorem dL_holds_45 : decode cL_holds 45 = .ok (.iaload, 1) := by decide +kernel
theorem dL_holds_46 : decode cL_holds 46 = .ok (.if_icmp .ge 64, 3) := by decide +kernel
theorem dL_holds_49 : decode cL_holds 49 = .ok (.aload_n 2, 1) := by decide +kernel
theorem dL_holds_50 : decode cL_holds 50 = .ok (.iload 9, 2) := by decide +kernel
theorem dL_holds_52 : decode cL_holds 52 = .ok (.laload, 1) := by decide +kernel
theorem dL_holds_53 : decode cL_holds 53 = .ok (.iload 6, 2) := by decide +kernel
theorem dL_holds_55 : decode cL_holds 55 = .ok (.invokestatic 77, 3) := by decide +kernel
theorem dL_holds_58 : decode cL_holds 58 = .ok (.iload 8, 2) := by decide +kernel
theorem dL_holds_60 : decode cL_holds 60 = .ok (.if_icmp .ne 44, 3) := by decide +kernel
theorem dL_holds_63 : decode cL_holds 63 = .ok (.aload_n 3, 1) := by decide +kernel
theorem dL_holds_64 : decode cL_holds 64 = .ok (.iload 9, 2) := by decide +kernel
theorem dL_holds_66 : decode cL_holds 66 = .ok (.iaload, 1) := by decide +kernel
theorem dL_holds_67 : decode cL_holds 67 = .ok (.ifCond .ge 37, 3) := by decide +kernel
theorem dL_holds_70 : decode cL_holds 70 = .ok (.aload_n 0, 1) := by decide +kernel
theorem dL_holds_71 : decode cL_holds 71 = .ok (.iload 9, 2) := by decide +kernel
theorem dL_holds_73 : decode cL_holds 73 = .ok (.iload 6, 2) := by decide +kernel
theorem dL_holds_75 : decode cL_holds 75 = .ok (.invokestatic 73, 3) := by decide +kernel
theorem dL_holds_78 : decode cL_holds 78 = .ok (.iconst 4, 1) := by decide +kernel
theorem dL_holds_79 : decode cL_holds 79 = .ok (.if_icmp .ne 6, 3) := by decide +kernel
theorem dL_holds_82 : decode cL_holds 82 = .ok (.goto 22, 3) := by decide +kernel
theorem dL_holds_85 : decode cL_holds 85 = .ok (.aload_n 3, 1) := by decide +kernel
theorem dL_holds_86 : decode cL_holds 86 = .ok (.iload 9, 2) := by decide +kernel
theorem dL_holds_88 : decode cL_holds 88 = .ok (.aload 5, 2) := by decide +kernel
theorem dL_holds_90 : decode cL_holds 90 = .ok (.iconst 5, 1) := by decide +kernel
theorem dL_holds_91 : decode cL_holds 91 = .ok (.iaload, 1) := by decide +kernel
theorem dL_holds_92 : decode cL_holds 92 = .ok (.iastore, 1) := by decide +kernel
theorem dL_holds_93 : decode cL_holds 93 = .ok (.aload 5, 2) := by decide +kernel
theorem dL_holds_95 : decode cL_holds 95 = .ok (.iconst 5, 1) := by decide +kernel
theorem dL_holds_96 : decode cL_holds 96 = .ok (.dup2, 1) := by decide +kernel
theorem dL_holds_97 : decode cL_holds 97 = .ok (.iaload, 1) := by decide +kernel
theorem dL_holds_98 : decode cL_holds 98 = .ok (.iconst 1, 1) := by decide +kernel
theorem dL_holds_99 : decode cL_holds 99 = .ok (.iadd, 1) := by decide +kernel
theorem dL_holds_100 : decode cL_holds 100 = .ok (.iastore, 1) := by decide +kernel
theorem dL_holds_101 : decode cL_holds 101 = .ok (.iinc 7 1, 3) := by decide +kernel
theorem dL_holds_104 : decode cL_holds 104 = .ok (.iinc 9 1, 3) := by decide +kernel
theorem dL_holds_107 : decode cL_holds 107 = .ok (.goto (-67), 3) := by decide +kernel
theorem dL_holds_110 : decode cL_holds 110 = .ok (.iinc 8 1, 3) := by decide +kernel
theorem dL_holds_113 : decode cL_holds 113 = .ok (.goto (-88), 3) := by decide +kernel
theorem dL_holds_116 : decode cL_holds 116 = .ok (.iload 7, 2) := by decide +kernel
theorem dL_holds_118 : decode cL_holds 118 = .ok (.ireturn, 1) := by decide +kernel
theorem dL_flushes_0 : decode cL_flushes 0 = .ok (.iconst 0, 1) := by decide +kernel
theorem dL_flushes_1 : decode cL_flushes 1 = .ok (.istore 10, 2) := by decide +kernel
theorem dL_flushes_3 : decode cL_flushes 3 = .ok (.lconst 0, 1) := by decide +kernel
theorem dL_flushes_4 : decode cL_flushes 4 = .ok (.lstore 11, 2) := by decide +kernel
theorem dL_flushes_6 : decode cL_flushes 6 = .ok (.lconst 0, 1) := by decide +kernel
theorem dL_flushes_7 : decode cL_flushes 7 = .ok (.lstore 13, 2) := by decide +kernel
theorem dL_flushes_9 : decode cL_flushes 9 = .ok (.iconst 0, 1) := by decide +kernel
theorem dL_flushes_10 : decode cL_flushes 10 = .ok (.istore 15, 2) := by decide +kernel
theorem dL_flushes_12 : decode cL_flushes 12 = .ok (.iload 15, 2) := by decide +kernel
theorem dL_flushes_14 : decode cL_flushes 14 = .ok (.aload 9, 2) := by decide +kernel
theorem dL_flushes_16 : decode cL_flushes 16 = .ok (.iconst 0, 1) := by decide +kernel
theorem dL_flushes_17 : decode cL_flushes 17 = .ok (.iaload, 1) := by decide +kernel
theorem dL_flushes_18 : decode cL_flushes 18 = .ok (.if_icmp .ge 137, 3) := by decide +kernel
theorem dL_flushes_21 : decode cL_flushes 21 = .ok (.aload_n 0, 1) := by decide +kernel
theorem dL_flushes_22 : decode cL_flushes 22 = .ok (.iload 15, 2) := by decide +kernel
theorem dL_flushes_24 : decode cL_flushes 24 = .ok (.iaload, 1) := by decide +kernel
theorem dL_flushes_25 : decode cL_flushes 25 = .ok (.bipush 7, 2) := by decide +kernel
theorem dL_flushes_27 : decode cL_flushes 27 = .ok (.iand, 1) := by decide +kernel
theorem dL_flushes_28 : decode cL_flushes 28 = .ok (.iconst 4, 1) := by decide +kernel
theorem dL_flushes_29 : decode cL_flushes 29 = .ok (.if_icmp .ne 15, 3) := by decide +kernel
theorem dL_flushes_32 : decode cL_flushes 32 = .ok (.lload 11, 2) := by decide +kernel
theorem dL_flushes_34 : decode cL_flushes 34 = .ok (.lconst 1, 1) := by decide +kernel
theorem dL_flushes_35 : decode cL_flushes 35 = .ok (.iload 15, 2) := by decide +kernel
theorem dL_flushes_37 : decode cL_flushes 37 = .ok (.lshl, 1) := by decide +kernel
theorem dL_flushes_38 : decode cL_flushes 38 = .ok (.lor, 1) := by decide +kernel
theorem dL_flushes_39 : decode cL_flushes 39 = .ok (.lstore 11, 2) := by decide +kernel
theorem dL_flushes_41 : decode cL_flushes 41 = .ok (.goto 108, 3) := by decide +kernel
theorem dL_flushes_44 : decode cL_flushes 44 = .ok (.iconst 0, 1) := by decide +kernel
theorem dL_flushes_45 : decode cL_flushes 45 = .ok (.istore 16, 2) := by decide +kernel
theorem dL_flushes_47 : decode cL_flushes 47 = .ok (.iconst 0, 1) := by decide +kernel
theorem dL_flushes_48 : decode cL_flushes 48 = .ok (.istore 17, 2) := by decide +kernel
theorem dL_flushes_50 : decode cL_flushes 50 = .ok (.iload 17, 2) := by decide +kernel
theorem dL_flushes_52 : decode cL_flushes 52 = .ok (.iconst 4, 1) := by decide +kernel
theorem dL_flushes_53 : decode cL_flushes 53 = .ok (.if_icmp .ge 55, 3) := by decide +kernel
theorem dL_flushes_56 : decode cL_flushes 56 = .ok (.iload 16, 2) := by decide +kernel
theorem dL_flushes_58 : decode cL_flushes 58 = .ok (.aload 9, 2) := by decide +kernel
theorem dL_flushes_60 : decode cL_flushes 60 = .ok (.iconst 1, 1) := by decide +kernel
theorem dL_flushes_61 : decode cL_flushes 61 = .ok (.iaload, 1) := by decide +kernel
theorem dL_flushes_62 : decode cL_flushes 62 = .ok (.iload 17, 2) := by decide +kernel
theorem dL_flushes_64 : decode cL_flushes 64 = .ok (.invokestatic 85, 3) := by decide +kernel
theorem dL_flushes_67 : decode cL_flushes 67 = .ok (.ifCond .ne 31, 3) := by decide +kernel
theorem dL_flushes_70 : decode cL_flushes 70 = .ok (.aload_n 0, 1) := by decide +kernel
theorem dL_flushes_71 : decode cL_flushes 71 = .ok (.iload 15, 2) := by decide +kernel
theorem dL_flushes_73 : decode cL_flushes 73 = .ok (.iload 17, 2) := by decide +kernel
theorem dL_flushes_75 : decode cL_flushes 75 = .ok (.invokestatic 73, 3) := by decide +kernel
theorem dL_flushes_78 : decode cL_flushes 78 = .ok (.iconst 1, 1) := by decide +kernel
theorem dL_flushes_79 : decode cL_flushes 79 = .ok (.if_icmp .eq 15, 3) := by decide +kernel
theorem dL_flushes_82 : decode cL_flushes 82 = .ok (.aload_n 0, 1) := by decide +kernel
theorem dL_flushes_83 : decode cL_flushes 83 = .ok (.iload 15, 2) := by decide +kernel
theorem dL_flushes_85 : decode cL_flushes 85 = .ok (.iload 17, 2) := by decide +kernel
theorem dL_flushes_87 : decode cL_flushes 87 = .ok (.invokestatic 73, 3) := by decide +kernel
theorem dL_flushes_90 : decode cL_flushes 90 = .ok (.iconst 2, 1) := by decide +kernel
theorem dL_flushes_91 : decode cL_flushes 91 = .ok (.if_icmp .ne 7, 3) := by decide +kernel
theorem dL_flushes_94 : decode cL_flushes 94 = .ok (.iconst 1, 1) := by decide +kernel
theorem dL_flushes_95 : decode cL_flushes 95 = .ok (.goto 4, 3) := by decide +kernel
theorem dL_flushes_98 : decode cL_flushes 98 = .ok (.iconst 0, 1) := by decide +kernel
theorem dL_flushes_99 : decode cL_flushes 99 = .ok (.ior, 1) := by decide +kernel
theorem dL_flushes_100 : decode cL_flushes 100 = .ok (.istore 16, 2) := by decide +kernel
theorem dL_flushes_102 : decode cL_flushes 102 = .ok (.iinc 17 1, 3) := by decide +kernel
theorem dL_flushes_105 : decode cL_flushes 105 = .ok (.goto (-55), 3) := by decide +kernel
theorem dL_flushes_108 : decode cL_flushes 108 = .ok (.iload 16, 2) := by decide +kernel
theorem dL_flushes_110 : decode cL_flushes 110 = .ok (.ifCond .eq 18, 3) := by decide +kernel
theorem dL_flushes_113 : decode cL_flushes 113 = .ok (.aload_n 1, 1) := by decide +kernel
theorem dL_flushes_114 : decode cL_flushes 114 = .ok (.iload 15, 2) := by decide +kernel
theorem dL_flushes_116 : decode cL_flushes 116 = .ok (.laload, 1) := by decide +kernel
theorem dL_flushes_117 : decode cL_flushes 117 = .ok (.lload 11, 2) := by decide +kernel
theorem dL_flushes_119 : decode cL_flushes 119 = .ok (.land, 1) := by decide +kernel
theorem dL_flushes_120 : decode cL_flushes 120 = .ok (.lconst 0, 1) := by decide +kernel
theorem dL_flushes_121 : decode cL_flushes 121 = .ok (.lcmp, 1) := by decide +kernel
theorem dL_flushes_122 : decode cL_flushes 122 = .ok (.ifCond .ne 6, 3) := by decide +kernel
theorem dL_flushes_125 : decode cL_flushes 125 = .ok (.goto 24, 3) := by decide +kernel
theorem dL_flushes_128 : decode cL_flushes 128 = .ok (.lload 11, 2) := by decide +kernel
theorem dL_flushes_130 : decode cL_flushes 130 = .ok (.lconst 1, 1) := by decide +kernel
theorem dL_flushes_131 : decode cL_flushes 131 = .ok (.iload 15, 2) := by decide +kernel
theorem dL_flushes_133 : decode cL_flushes 133 = .ok (.lshl, 1) := by decide +kernel
theorem dL_flushes_134 : decode cL_flushes 134 = .ok (.lor, 1) := by decide +kernel
theorem dL_flushes_135 : decode cL_flushes 135 = .ok (.lstore 11, 2) := by decide +kernel
theorem dL_flushes_137 : decode cL_flushes 137 = .ok (.lload 13, 2) := by decide +kernel
theorem dL_flushes_139 : decode cL_flushes 139 = .ok (.lconst 1, 1) := by decide +kernel
theorem dL_flushes_140 : decode cL_flushes 140 = .ok (.iload 15, 2) := by decide +kernel
theorem dL_flushes_142 : decode cL_flushes 142 = .ok (.lshl, 1) := by decide +kernel
theorem dL_flushes_143 : decode cL_flushes 143 = .ok (.lor, 1) := by decide +kernel
theorem dL_flushes_144 : decode cL_flushes 144 = .ok (.lstore 13, 2) := by decide +kernel
theorem dL_flushes_146 : decode cL_flushes 146 = .ok (.iinc 10 1, 3) := by decide +kernel
theorem dL_flushes_149 : decode cL_flushes 149 = .ok (.iinc 15 1, 3) := by decide +kernel
theorem dL_flushes_152 : decode cL_flushes 152 = .ok (.goto (-140), 3) := by decide +kernel
theorem dL_flushes_155 : decode cL_flushes 155 = .ok (.iconst 0, 1) := by decide +kernel
theorem dL_flushes_156 : decode cL_flushes 156 = .ok (.istore 15, 2) := by decide +kernel
theorem dL_flushes_158 : decode cL_flushes 158 = .ok (.iload 15, 2) := by decide +kernel
theorem dL_flushes_160 : decode cL_flushes 160 = .ok (.aload 9, 2) := by decide +kernel
theorem dL_flushes_162 : decode cL_flushes 162 = .ok (.iconst 0, 1) := by decide +kernel
theorem dL_flushes_163 : decode cL_flushes 163 = .ok (.iaload, 1) := by decide +kernel
theorem dL_flushes_164 : decode cL_flushes 164 = .ok (.if_icmp .ge 82, 3) := by decide +kernel
theorem dL_flushes_167 : decode cL_flushes 167 = .ok (.lload 13, 2) := by decide +kernel
theorem dL_flushes_169 : decode cL_flushes 169 = .ok (.iload 15, 2) := by decide +kernel
theorem dL_flushes_171 : decode cL_flushes 171 = .ok (.lshr, 1) := by decide +kernel
theorem dL_flushes_172 : decode cL_flushes 172 = .ok (.lconst 1, 1) := by decide +kernel
theorem dL_flushes_173 : decode cL_flushes 173 = .ok (.land, 1) := by decide +kernel
theorem dL_flushes_174 : decode cL_flushes 174 = .ok (.lconst 0, 1) := by decide +kernel
theorem dL_flushes_175 : decode cL_flushes 175 = .ok (.lcmp, 1) := by decide +kernel
theorem dL_flushes_176 : decode cL_flushes 176 = .ok (.ifCond .ne 6, 3) := by decide +kernel
theorem dL_flushes_179 : decode cL_flushes 179 = .ok (.goto 61, 3) := by decide +kernel
theorem dL_flushes_182 : decode cL_flushes 182 = .ok (.iconst 0, 1) := by decide +kernel
theorem dL_flushes_183 : decode cL_flushes 183 = .ok (.istore 16, 2) := by decide +kernel
theorem dL_flushes_185 : decode cL_flushes 185 = .ok (.iload 16, 2) := by decide +kernel
theorem dL_flushes_187 : decode cL_flushes 187 = .ok (.iconst 4, 1) := by decide +kernel
theorem dL_flushes_188 : decode cL_flushes 188 = .ok (.if_icmp .ge 46, 3) := by decide +kernel
theorem dL_flushes_191 : decode cL_flushes 191 = .ok (.aload_n 0, 1) := by decide +kernel
theorem dL_flushes_192 : decode cL_flushes 192 = .ok (.iload 15, 2) := by decide +kernel
theorem dL_flushes_194 : decode cL_flushes 194 = .ok (.iload 16, 2) := by decide +kernel
theorem dL_flushes_196 : decode cL_flushes 196 = .ok (.iconst 4, 1) := by decide +kernel
theorem dL_flushes_197 : decode cL_flushes 197 = .ok (.invokestatic 59, 3) := by decide +kernel
theorem dL_flushes_200 : decode cL_flushes 200 = .ok (.aload 9, 2) := by decide +kernel
theorem dL_flushes_202 : decode cL_flushes 202 = .ok (.iconst 1, 1) := by decide +kernel
theorem dL_flushes_203 : decode cL_flushes 203 = .ok (.iaload, 1) := by decide +kernel
theorem dL_flushes_204 : decode cL_flushes 204 = .ok (.iload 16, 2) := by decide +kernel
theorem dL_flushes_206 : decode cL_flushes 206 = .ok (.invokestatic 85, 3) := by decide +kernel
theorem dL_flushes_209 : decode cL_flushes 209 = .ok (.ifCond .ne 19, 3) := by decide +kernel
theorem dL_flushes_212 : decode cL_flushes 212 = .ok (.aload 4, 2) := by decide +kernel
theorem dL_flushes_214 : decode cL_flushes 214 = .ok (.iload 15, 2) := by decide +kernel
theorem dL_flushes_216 : decode cL_flushes 216 = .ok (.aload 4, 2) := by decide +kernel
theorem dL_flushes_218 : decode cL_flushes 218 = .ok (.iload 15, 2) := by decide +kernel
theorem dL_flushes_220 : decode cL_flushes 220 = .ok (.laload, 1) := by decide +kernel
theorem dL_flushes_221 : decode cL_flushes 221 = .ok (.iload 16, 2) := by decide +kernel
theorem dL_flushes_223 : decode cL_flushes 223 = .ok (.iconst 0, 1) := by decide +kernel
theorem dL_flushes_224 : decode cL_flushes 224 = .ok (.invokestatic 69, 3) := by decide +kernel
theorem dL_flushes_227 : decode cL_flushes 227 = .ok (.lastore, 1) := by decide +kernel
theorem dL_flushes_228 : decode cL_flushes 228 = .ok (.iinc 16 1, 3) := by decide +kernel
theorem dL_flushes_231 : decode cL_flushes 231 = .ok (.goto (-46), 3) := by decide +kernel
theorem dL_flushes_234 : decode cL_flushes 234 = .ok (.aload 7, 2) := by decide +kernel
theorem dL_flushes_236 : decode cL_flushes 236 = .ok (.iload 15, 2) := by decide +kernel
theorem dL_flushes_238 : decode cL_flushes 238 = .ok (.iconst (-1), 1) := by decide +kernel
theorem dL_flushes_239 : decode cL_flushes 239 = .ok (.iastore, 1) := by decide +kernel
theorem dL_flushes_240 : decode cL_flushes 240 = .ok (.iinc 15 1, 3) := by decide +kernel
theorem dL_flushes_243 : decode cL_flushes 243 = .ok (.goto (-85), 3) := by decide +kernel
theorem dL_flushes_246 : decode cL_flushes 246 = .ok (.iconst 0, 1) := by decide +kernel
theorem dL_flushes_247 : decode cL_flushes 247 = .ok (.istore 15, 2) := by decide +kernel
theorem dL_flushes_249 : decode cL_flushes 249 = .ok (.iconst 0, 1) := by decide +kernel
theorem dL_flushes_250 : decode cL_flushes 250 = .ok (.istore 16, 2) := by decide +kernel
theorem dL_flushes_252 : decode cL_flushes 252 = .ok (.iload 16, 2) := by decide +kernel
theorem dL_flushes_254 : decode cL_flushes 254 = .ok (.aload 9, 2) := by decide +kernel
theorem dL_flushes_256 : decode cL_flushes 256 = .ok (.iconst 5, 1) := by decide +kernel
theorem dL_flushes_257 : decode cL_flushes 257 = .ok (.iaload, 1) := by decide +kernel
theorem dL_flushes_258 : decode cL_flushes 258 = .ok (.if_icmp .ge 90, 3) := by decide +kernel
theorem dL_flushes_261 : decode cL_flushes 261 = .ok (.iconst (-1), 1) := by decide +kernel
theorem dL_flushes_262 : decode cL_flushes 262 = .ok (.istore 17, 2) := by decide +kernel
theorem dL_flushes_264 : decode cL_flushes 264 = .ok (.iconst 0, 1) := by decide +kernel
theorem dL_flushes_265 : decode cL_flushes 265 = .ok (.istore 18, 2) := by decide +kernel
theorem dL_flushes_267 : decode cL_flushes 267 = .ok (.iload 18, 2) := by decide +kernel
theorem dL_flushes_269 : decode cL_flushes 269 = .ok (.aload 9, 2) := by decide +kernel
theorem dL_flushes_271 : decode cL_flushes 271 = .ok (.iconst 0, 1) := by decide +kernel
theorem dL_flushes_272 : decode cL_flushes 272 = .ok (.iaload, 1) := by decide +kernel
theorem dL_flushes_273 : decode cL_flushes 273 = .ok (.if_icmp .ge 28, 3) := by decide +kernel
theorem dL_flushes_276 : decode cL_flushes 276 = .ok (.aload 6, 2) := by decide +kernel
theorem dL_flushes_278 : decode cL_flushes 278 = .ok (.iload 18, 2) := by decide +kernel
theorem dL_flushes_280 : decode cL_flushes 280 = .ok (.iaload, 1) := by decide +kernel
theorem dL_flushes_281 : decode cL_flushes 281 = .ok (.iload 16, 2) := by decide +kernel
theorem dL_flushes_283 : decode cL_flushes 283 = .ok (.if_icmp .ne 8, 3) := by decide +kernel
theorem dL_flushes_286 : decode cL_flushes 286 = .ok (.iload 18, 2) := by decide +kernel
theorem dL_flushes_288 : decode cL_flushes 288 = .ok (.goto 5, 3) := by decide +kernel
theorem dL_flushes_291 : decode cL_flushes 291 = .ok (.iload 17, 2) := by decide +kernel
theorem dL_flushes_293 : decode cL_flushes 293 = .ok (.istore 17, 2) := by decide +kernel
theorem dL_flushes_295 : decode cL_flushes 295 = .ok (.iinc 18 1, 3) := by decide +kernel
theorem dL_flushes_298 : decode cL_flushes 298 = .ok (.goto (-31), 3) := by decide +kernel
theorem dL_flushes_301 : decode cL_flushes 301 = .ok (.aload 6, 2) := by decide +kernel
theorem dL_flushes_303 : decode cL_flushes 303 = .ok (.iload 17, 2) := by decide +kernel
theorem dL_flushes_305 : decode cL_flushes 305 = .ok (.lload 13, 2) := by decide +kernel
theorem dL_flushes_307 : decode cL_flushes 307 = .ok (.iload 17, 2) := by decide +kernel
theorem dL_flushes_309 : decode cL_flushes 309 = .ok (.lshr, 1) := by decide +kernel
theorem dL_flushes_310 : decode cL_flushes 310 = .ok (.lconst 1, 1) := by decide +kernel
theorem dL_flushes_311 : decode cL_flushes 311 = .ok (.land, 1) := by decide +kernel
theorem dL_flushes_312 : decode cL_flushes 312 = .ok (.lconst 1, 1) := by decide +kernel
theorem dL_flushes_313 : decode cL_flushes 313 = .ok (.lcmp, 1) := by decide +kernel
theorem dL_flushes_314 : decode cL_flushes 314 = .ok (.ifCond .ne 7, 3) := by decide +kernel
theorem dL_flushes_317 : decode cL_flushes 317 = .ok (.iconst (-1), 1) := by decide +kernel
theorem dL_flushes_318 : decode cL_flushes 318 = .ok (.goto 5, 3) := by decide +kernel
theorem dL_flushes_321 : decode cL_flushes 321 = .ok (.iload 15, 2) := by decide +kernel
theorem dL_flushes_323 : decode cL_flushes 323 = .ok (.iastore, 1) := by decide +kernel
theorem dL_flushes_324 : decode cL_flushes 324 = .ok (.iload 15, 2) := by decide +kernel
theorem dL_flushes_326 : decode cL_flushes 326 = .ok (.aload 6, 2) := by decide +kernel
theorem dL_flushes_328 : decode cL_flushes 328 = .ok (.iload 17, 2) := by decide +kernel
theorem dL_flushes_330 : decode cL_flushes 330 = .ok (.iaload, 1) := by decide +kernel
theorem dL_flushes_331 : decode cL_flushes 331 = .ok (.ifCond .ge 7, 3) := by decide +kernel
theorem dL_flushes_334 : decode cL_flushes 334 = .ok (.iconst 0, 1) := by decide +kernel
theorem dL_flushes_335 : decode cL_flushes 335 = .ok (.goto 4, 3) := by decide +kernel
theorem dL_flushes_338 : decode cL_flushes 338 = .ok (.iconst 1, 1) := by decide +kernel
theorem dL_flushes_339 : decode cL_flushes 339 = .ok (.iadd, 1) := by decide +kernel
theorem dL_flushes_340 : decode cL_flushes 340 = .ok (.istore 15, 2) := by decide +kernel
theorem dL_flushes_342 : decode cL_flushes 342 = .ok (.iinc 16 1, 3) := by decide +kernel
theorem dL_flushes_345 : decode cL_flushes 345 = .ok (.goto (-93), 3) := by decide +kernel
theorem dL_flushes_348 : decode cL_flushes 348 = .ok (.aload 9, 2) := by decide +kernel
theorem dL_flushes_350 : decode cL_flushes 350 = .ok (.iconst 5, 1) := by decide +kernel
theorem dL_flushes_351 : decode cL_flushes 351 = .ok (.iload 15, 2) := by decide +kernel
theorem dL_flushes_353 : decode cL_flushes 353 = .ok (.iastore, 1) := by decide +kernel
theorem dL_flushes_354 : decode cL_flushes 354 = .ok (.iconst 0, 1) := by decide +kernel
theorem dL_flushes_355 : decode cL_flushes 355 = .ok (.istore 16, 2) := by decide +kernel
theorem dL_flushes_357 : decode cL_flushes 357 = .ok (.iload 16, 2) := by decide +kernel
theorem dL_flushes_359 : decode cL_flushes 359 = .ok (.iconst 4, 1) := by decide +kernel
theorem dL_flushes_360 : decode cL_flushes 360 = .ok (.if_icmp .ge 80, 3) := by decide +kernel
theorem dL_flushes_363 : decode cL_flushes 363 = .ok (.iconst 0, 1) := by decide +kernel
theorem dL_flushes_364 : decode cL_flushes 364 = .ok (.istore 17, 2) := by decide +kernel
theorem dL_flushes_366 : decode cL_flushes 366 = .ok (.iload 17, 2) := by decide +kernel
theorem dL_flushes_368 : decode cL_flushes 368 = .ok (.aload 9, 2) := by decide +kernel
theorem dL_flushes_370 : decode cL_flushes 370 = .ok (.iconst 0, 1) := by decide +kernel
theorem dL_flushes_371 : decode cL_flushes 371 = .ok (.iaload, 1) := by decide +kernel
theorem dL_flushes_372 : decode cL_flushes 372 = .ok (.if_icmp .ge 62, 3) := by decide +kernel
theorem dL_flushes_375 : decode cL_flushes 375 = .ok (.aload 9, 2) := by decide +kernel
theorem dL_flushes_377 : decode cL_flushes 377 = .ok (.iconst 1, 1) := by decide +kernel
theorem dL_flushes_378 : decode cL_flushes 378 = .ok (.iaload, 1) := by decide +kernel
theorem dL_flushes_379 : decode cL_flushes 379 = .ok (.iload 16, 2) := by decide +kernel
theorem dL_flushes_381 : decode cL_flushes 381 = .ok (.invokestatic 85, 3) := by decide +kernel
theorem dL_flushes_384 : decode cL_flushes 384 = .ok (.ifCond .ne 44, 3) := by decide +kernel
theorem dL_flushes_387 : decode cL_flushes 387 = .ok (.aload_n 0, 1) := by decide +kernel
theorem dL_flushes_388 : decode cL_flushes 388 = .ok (.iload 17, 2) := by decide +kernel
theorem dL_flushes_390 : decode cL_flushes 390 = .ok (.iload 16, 2) := by decide +kernel
theorem dL_flushes_392 : decode cL_flushes 392 = .ok (.invokestatic 73, 3) := by decide +kernel
theorem dL_flushes_395 : decode cL_flushes 395 = .ok (.ifCond .eq 15, 3) := by decide +kernel
theorem dL_flushes_398 : decode cL_flushes 398 = .ok (.aload_n 0, 1) := by decide +kernel
theorem dL_flushes_399 : decode cL_flushes 399 = .ok (.iload 17, 2) := by decide +kernel
theorem dL_flushes_401 : decode cL_flushes 401 = .ok (.iload 16, 2) := by decide +kernel
theorem dL_flushes_403 : decode cL_flushes 403 = .ok (.invokestatic 73, 3) := by decide +kernel
theorem dL_flushes_406 : decode cL_flushes 406 = .ok (.iconst 3, 1) := by decide +kernel
theorem dL_flushes_407 : decode cL_flushes 407 = .ok (.if_icmp .ne 21, 3) := by decide +kernel
theorem dL_flushes_410 : decode cL_flushes 410 = .ok (.aload_n 0, 1) := by decide +kernel
theorem dL_flushes_411 : decode cL_flushes 411 = .ok (.aload_n 1, 1) := by decide +kernel
theorem dL_flushes_412 : decode cL_flushes 412 = .ok (.aload_n 2, 1) := by decide +kernel
theorem dL_flushes_413 : decode cL_flushes 413 = .ok (.aload_n 3, 1) := by decide +kernel
theorem dL_flushes_414 : decode cL_flushes 414 = .ok (.aload 4, 2) := by decide +kernel
theorem dL_flushes_416 : decode cL_flushes 416 = .ok (.aload 6, 2) := by decide +kernel
theorem dL_flushes_418 : decode cL_flushes 418 = .ok (.aload 9, 2) := by decide +kernel
theorem dL_flushes_420 : decode cL_flushes 420 = .ok (.iload 17, 2) := by decide +kernel
theorem dL_flushes_422 : decode cL_flushes 422 = .ok (.iload 16, 2) := by decide +kernel
theorem dL_flushes_424 : decode cL_flushes 424 = .ok (.invokestatic 97, 3) := by decide +kernel
theorem dL_flushes_427 : decode cL_flushes 427 = .ok (.pop, 1) := by decide +kernel
theorem dL_flushes_428 : decode cL_flushes 428 = .ok (.iinc 17 1, 3) := by decide +kernel
theorem dL_flushes_431 : decode cL_flushes 431 = .ok (.goto (-65), 3) := by decide +kernel
theorem dL_flushes_434 : decode cL_flushes 434 = .ok (.iinc 16 1, 3) := by decide +kernel
theorem dL_flushes_437 : decode cL_flushes 437 = .ok (.goto (-80), 3) := by decide +kernel
theorem dL_flushes_440 : decode cL_flushes 440 = .ok (.aload 9, 2) := by decide +kernel
theorem dL_flushes_442 : decode cL_flushes 442 = .ok (.iconst 2, 1) := by decide +kernel
theorem dL_flushes_443 : decode cL_flushes 443 = .ok (.aload 9, 2) := by decide +kernel
theorem dL_flushes_445 : decode cL_flushes 445 = .ok (.iconst 1, 1) := by decide +kernel
theorem dL_flushes_446 : decode cL_flushes 446 = .ok (.iaload, 1) := by decide +kernel
theorem dL_flushes_447 : decode cL_flushes 447 = .ok (.iastore, 1) := by decide +kernel
theorem dL_flushes_448 : decode cL_flushes 448 = .ok (.aload 9, 2) := by decide +kernel
theorem dL_flushes_450 : decode cL_flushes 450 = .ok (.iconst 4, 1) := by decide +kernel
theorem dL_flushes_451 : decode cL_flushes 451 = .ok (.dup2, 1) := by decide +kernel
theorem dL_flushes_452 : decode cL_flushes 452 = .ok (.iaload, 1) := by decide +kernel
theorem dL_flushes_453 : decode cL_flushes 453 = .ok (.iconst 1, 1) := by decide +kernel
theorem dL_flushes_454 : decode cL_flushes 454 = .ok (.iadd, 1) := by decide +kernel
theorem dL_flushes_455 : decode cL_flushes 455 = .ok (.iastore, 1) := by decide +kernel
theorem dL_flushes_456 : decode cL_flushes 456 = .ok (.aload 9, 2) := by decide +kernel
theorem dL_flushes_458 : decode cL_flushes 458 = .ok (.iconst 1, 1) := by decide +kernel
theorem dL_flushes_459 : decode cL_flushes 459 = .ok (.iaload, 1) := by decide +kernel
theorem dL_flushes_460 : decode cL_flushes 460 = .ok (.aload 9, 2) := by decide +kernel
theorem dL_flushes_462 : decode cL_flushes 462 = .ok (.iconst 3, 1) := by decide +kernel
theorem dL_flushes_463 : decode cL_flushes 463 = .ok (.iaload, 1) := by decide +kernel
theorem dL_flushes_464 : decode cL_flushes 464 = .ok (.invokestatic 85, 3) := by decide +kernel
theorem dL_flushes_467 : decode cL_flushes 467 = .ok (.ifCond .eq 39, 3) := by decide +kernel
theorem dL_flushes_470 : decode cL_flushes 470 = .ok (.iconst 0, 1) := by decide +kernel
theorem dL_flushes_471 : decode cL_flushes 471 = .ok (.istore 16, 2) := by decide +kernel
theorem dL_flushes_473 : decode cL_flushes 473 = .ok (.aload 9, 2) := by decide +kernel
theorem dL_flushes_475 : decode cL_flushes 475 = .ok (.iconst 1, 1) := by decide +kernel
theorem dL_flushes_476 : decode cL_flushes 476 = .ok (.iaload, 1) := by decide +kernel
theorem dL_flushes_477 : decode cL_flushes 477 = .ok (.iload 16, 2) := by decide +kernel
theorem dL_flushes_479 : decode cL_flushes 479 = .ok (.invokestatic 85, 3) := by decide +kernel
theorem dL_flushes_482 : decode cL_flushes 482 = .ok (.ifCond .eq 9, 3) := by decide +kernel
theorem dL_flushes_485 : decode cL_flushes 485 = .ok (.iinc 16 1, 3) := by decide +kernel
theorem dL_flushes_488 : decode cL_flushes 488 = .ok (.goto (-15), 3) := by decide +kernel
theorem dL_flushes_491 : decode cL_flushes 491 = .ok (.aload_n 0, 1) := by decide +kernel
theorem dL_flushes_492 : decode cL_flushes 492 = .ok (.aload_n 2, 1) := by decide +kernel
theorem dL_flushes_493 : decode cL_flushes 493 = .ok (.aload_n 3, 1) := by decide +kernel
theorem dL_flushes_494 : decode cL_flushes 494 = .ok (.aload 6, 2) := by decide +kernel
theorem dL_flushes_496 : decode cL_flushes 496 = .ok (.aload 8, 2) := by decide +kernel
theorem dL_flushes_498 : decode cL_flushes 498 = .ok (.aload 9, 2) := by decide +kernel
theorem dL_flushes_500 : decode cL_flushes 500 = .ok (.iload 16, 2) := by decide +kernel
theorem dL_flushes_502 : decode cL_flushes 502 = .ok (.invokestatic 101, 3) := by decide +kernel
theorem dL_flushes_505 : decode cL_flushes 505 = .ok (.pop, 1) := by decide +kernel
theorem dL_flushes_506 : decode cL_flushes 506 = .ok (.iconst 0, 1) := by decide +kernel
theorem dL_flushes_507 : decode cL_flushes 507 = .ok (.istore 16, 2) := by decide +kernel
theorem dL_flushes_509 : decode cL_flushes 509 = .ok (.iload 16, 2) := by decide +kernel
theorem dL_flushes_511 : decode cL_flushes 511 = .ok (.iconst 4, 1) := by decide +kernel
theorem dL_flushes_512 : decode cL_flushes 512 = .ok (.if_icmp .ge 32, 3) := by decide +kernel
theorem dL_flushes_515 : decode cL_flushes 515 = .ok (.aload 9, 2) := by decide +kernel
theorem dL_flushes_517 : decode cL_flushes 517 = .ok (.iconst 1, 1) := by decide +kernel
theorem dL_flushes_518 : decode cL_flushes 518 = .ok (.iaload, 1) := by decide +kernel
theorem dL_flushes_519 : decode cL_flushes 519 = .ok (.iload 16, 2) := by decide +kernel
theorem dL_flushes_521 : decode cL_flushes 521 = .ok (.invokestatic 85, 3) := by decide +kernel
theorem dL_flushes_524 : decode cL_flushes 524 = .ok (.ifCond .ne 14, 3) := by decide +kernel
theorem dL_flushes_527 : decode cL_flushes 527 = .ok (.aload 8, 2) := by decide +kernel
theorem dL_flushes_529 : decode cL_flushes 529 = .ok (.iconst 4, 1) := by decide +kernel
theorem dL_flushes_530 : decode cL_flushes 530 = .ok (.iload 16, 2) := by decide +kernel
theorem dL_flushes_532 : decode cL_flushes 532 = .ok (.iadd, 1) := by decide +kernel
theorem dL_flushes_533 : decode cL_flushes 533 = .ok (.aload 9, 2) := by decide +kernel
theorem dL_flushes_535 : decode cL_flushes 535 = .ok (.iconst 5, 1) := by decide +kernel
theorem dL_flushes_536 : decode cL_flushes 536 = .ok (.iaload, 1) := by decide +kernel
theorem dL_flushes_537 : decode cL_flushes 537 = .ok (.iastore, 1) := by decide +kernel
theorem dL_flushes_538 : decode cL_flushes 538 = .ok (.iinc 16 1, 3) := by decide +kernel
theorem dL_flushes_541 : decode cL_flushes 541 = .ok (.goto (-32), 3) := by decide +kernel
theorem dL_flushes_544 : decode cL_flushes 544 = .ok (.iconst (-1), 1) := by decide +kernel
theorem dL_flushes_545 : decode cL_flushes 545 = .ok (.istore 16, 2) := by decide +kernel
theorem dL_flushes_547 : decode cL_flushes 547 = .ok (.iconst 0, 1) := by decide +kernel
theorem dL_flushes_548 : decode cL_flushes 548 = .ok (.istore 17, 2) := by decide +kernel
theorem dL_flushes_550 : decode cL_flushes 550 = .ok (.iconst 0, 1) := by decide +kernel
theorem dL_flushes_551 : decode cL_flushes 551 = .ok (.istore 18, 2) := by decide +kernel
theorem dL_flushes_553 : decode cL_flushes 553 = .ok (.iload 18, 2) := by decide +kernel
theorem dL_flushes_555 : decode cL_flushes 555 = .ok (.aload 9, 2) := by decide +kernel
theorem dL_flushes_557 : decode cL_flushes 557 = .ok (.iconst 0, 1) := by decide +kernel
theorem dL_flushes_558 : decode cL_flushes 558 = .ok (.iaload, 1) := by decide +kernel
theorem dL_flushes_559 : decode cL_flushes 559 = .ok (.if_icmp .ge 101, 3) := by decide +kernel
theorem dL_flushes_562 : decode cL_flushes 562 = .ok (.aload_n 0, 1) := by decide +kernel
theorem dL_flushes_563 : decode cL_flushes 563 = .ok (.iload 18, 2) := by decide +kernel
theorem dL_flushes_565 : decode cL_flushes 565 = .ok (.iaload, 1) := by decide +kernel
theorem dL_flushes_566 : decode cL_flushes 566 = .ok (.bipush 7, 2) := by decide +kernel
theorem dL_flushes_568 : decode cL_flushes 568 = .ok (.iand, 1) := by decide +kernel
theorem dL_flushes_569 : decode cL_flushes 569 = .ok (.iconst 4, 1) := by decide +kernel
theorem dL_flushes_570 : decode cL_flushes 570 = .ok (.if_icmp .eq 84, 3) := by decide +kernel
theorem dL_flushes_573 : decode cL_flushes 573 = .ok (.aload 7, 2) := by decide +kernel
theorem dL_flushes_575 : decode cL_flushes 575 = .ok (.iload 18, 2) := by decide +kernel
theorem dL_flushes_577 : decode cL_flushes 577 = .ok (.iaload, 1) := by decide +kernel
theorem dL_flushes_578 : decode cL_flushes 578 = .ok (.ifCond .lt 6, 3) := by decide +kernel
theorem dL_flushes_581 : decode cL_flushes 581 = .ok (.goto 73, 3) := by decide +kernel
theorem dL_flushes_584 : decode cL_flushes 584 = .ok (.iconst 0, 1) := by decide +kernel
theorem dL_flushes_585 : decode cL_flushes 585 = .ok (.istore 19, 2) := by decide +kernel
theorem dL_flushes_587 : decode cL_flushes 587 = .ok (.iconst 0, 1) := by decide +kernel
theorem dL_flushes_588 : decode cL_flushes 588 = .ok (.istore 20, 2) := by decide +kernel
theorem dL_flushes_590 : decode cL_flushes 590 = .ok (.iload 20, 2) := by decide +kernel
theorem dL_flushes_592 : decode cL_flushes 592 = .ok (.iconst 4, 1) := by decide +kernel
theorem dL_flushes_593 : decode cL_flushes 593 = .ok (.if_icmp .ge 41, 3) := by decide +kernel
theorem dL_flushes_596 : decode cL_flushes 596 = .ok (.aload 5, 2) := by decide +kernel
theorem dL_flushes_598 : decode cL_flushes 598 = .ok (.iload 18, 2) := by decide +kernel
theorem dL_flushes_600 : decode cL_flushes 600 = .ok (.laload, 1) := by decide +kernel
theorem dL_flushes_601 : decode cL_flushes 601 = .ok (.iload 20, 2) := by decide +kernel
theorem dL_flushes_603 : decode cL_flushes 603 = .ok (.invokestatic 77, 3) := by decide +kernel
theorem dL_flushes_606 : decode cL_flushes 606 = .ok (.iload 19, 2) := by decide +kernel
theorem dL_flushes_608 : decode cL_flushes 608 = .ok (.if_icmp .le 16, 3) := by decide +kernel
theorem dL_flushes_611 : decode cL_flushes 611 = .ok (.aload 5, 2) := by decide +kernel
theorem dL_flushes_613 : decode cL_flushes 613 = .ok (.iload 18, 2) := by decide +kernel
theorem dL_flushes_615 : decode cL_flushes 615 = .ok (.laload, 1) := by decide +kernel
theorem dL_flushes_616 : decode cL_flushes 616 = .ok (.iload 20, 2) := by decide +kernel
theorem dL_flushes_618 : decode cL_flushes 618 = .ok (.invokestatic 77, 3) := by decide +kernel
theorem dL_flushes_621 : decode cL_flushes 621 = .ok (.goto 5, 3) := by decide +kernel
theorem dL_flushes_624 : decode cL_flushes 624 = .ok (.iload 19, 2) := by decide +kernel
theorem dL_flushes_626 : decode cL_flushes 626 = .ok (.istore 19, 2) := by decide +kernel
theorem dL_flushes_628 : decode cL_flushes 628 = .ok (.iinc 20 1, 3) := by decide +kernel
theorem dL_flushes_631 : decode cL_flushes 631 = .ok (.goto (-41), 3) := by decide +kernel
theorem dL_flushes_634 : decode cL_flushes 634 = .ok (.iload 16, 2) := by decide +kernel
theorem dL_flushes_636 : decode cL_flushes 636 = .ok (.ifCond .lt 10, 3) := by decide +kernel
theorem dL_flushes_639 : decode cL_flushes 639 = .ok (.iload 19, 2) := by decide +kernel
theorem dL_flushes_641 : decode cL_flushes 641 = .ok (.iload 17, 2) := by decide +kernel
theorem dL_flushes_643 : decode cL_flushes 643 = .ok (.if_icmp .ge 11, 3) := by decide +kernel
theorem dL_flushes_646 : decode cL_flushes 646 = .ok (.iload 18, 2) := by decide +kernel
theorem dL_flushes_648 : decode cL_flushes 648 = .ok (.istore 16, 2) := by decide +kernel
theorem dL_flushes_650 : decode cL_flushes 650 = .ok (.iload 19, 2) := by decide +kernel
theorem dL_flushes_652 : decode cL_flushes 652 = .ok (.istore 17, 2) := by decide +kernel
theorem dL_flushes_654 : decode cL_flushes 654 = .ok (.iinc 18 1, 3) := by decide +kernel
theorem dL_flushes_657 : decode cL_flushes 657 = .ok (.goto (-104), 3) := by decide +kernel
theorem dL_flushes_660 : decode cL_flushes 660 = .ok (.iload 16, 2) := by decide +kernel
theorem dL_flushes_662 : decode cL_flushes 662 = .ok (.ifCond .ge 6, 3) := by decide +kernel
theorem dL_flushes_665 : decode cL_flushes 665 = .ok (.iload 10, 2) := by decide +kernel
theorem dL_flushes_667 : decode cL_flushes 667 = .ok (.ireturn, 1) := by decide +kernel
theorem dL_flushes_668 : decode cL_flushes 668 = .ok (.aload 9, 2) := by decide +kernel
theorem dL_flushes_670 : decode cL_flushes 670 = .ok (.bipush 6, 2) := by decide +kernel
theorem dL_flushes_672 : decode cL_flushes 672 = .ok (.dup2, 1) := by decide +kernel
theorem dL_flushes_673 : decode cL_flushes 673 = .ok (.iaload, 1) := by decide +kernel
theorem dL_flushes_674 : decode cL_flushes 674 = .ok (.iconst 1, 1) := by decide +kernel
theorem dL_flushes_675 : decode cL_flushes 675 = .ok (.iadd, 1) := by decide +kernel
theorem dL_flushes_676 : decode cL_flushes 676 = .ok (.iastore, 1) := by decide +kernel
theorem dL_flushes_677 : decode cL_flushes 677 = .ok (.aload 7, 2) := by decide +kernel
theorem dL_flushes_679 : decode cL_flushes 679 = .ok (.iload 16, 2) := by decide +kernel
theorem dL_flushes_681 : decode cL_flushes 681 = .ok (.aload 9, 2) := by decide +kernel
theorem dL_flushes_683 : decode cL_flushes 683 = .ok (.bipush 6, 2) := by decide +kernel
theorem dL_flushes_685 : decode cL_flushes 685 = .ok (.iaload, 1) := by decide +kernel
theorem dL_flushes_686 : decode cL_flushes 686 = .ok (.iastore, 1) := by decide +kernel
theorem dL_flushes_687 : decode cL_flushes 687 = .ok (.goto (-143), 3) := by decide +kernel
theorem dL_keeps_0 : decode cL_keeps 0 = .ok (.iload_n 1, 1) := by decide +kernel
theorem dL_keeps_1 : decode cL_keeps 1 = .ok (.bipush 22, 2) := by decide +kernel
theorem dL_keeps_3 : decode cL_keeps 3 = .ok (.invokestatic 105, 3) := by decide +kernel
theorem dL_keeps_6 : decode cL_keeps 6 = .ok (.istore 13, 2) := by decide +kernel
theorem dL_keeps_8 : decode cL_keeps 8 = .ok (.iload_n 2, 1) := by decide +kernel
theorem dL_keeps_9 : decode cL_keeps 9 = .ok (.iconst 3, 1) := by decide +kernel
theorem dL_keeps_10 : decode cL_keeps 10 = .ok (.iand, 1) := by decide +kernel
theorem dL_keeps_11 : decode cL_keeps 11 = .ok (.istore 14, 2) := by decide +kernel
theorem dL_keeps_13 : decode cL_keeps 13 = .ok (.aload 12, 2) := by decide +kernel
theorem dL_keeps_15 : decode cL_keeps 15 = .ok (.iconst 1, 1) := by decide +kernel
theorem dL_keeps_16 : decode cL_keeps 16 = .ok (.iaload, 1) := by decide +kernel
theorem dL_keeps_17 : decode cL_keeps 17 = .ok (.aload 12, 2) := by decide +kernel
theorem dL_keeps_19 : decode cL_keeps 19 = .ok (.iconst 2, 1) := by decide +kernel
theorem dL_keeps_20 : decode cL_keeps 20 = .ok (.iaload, 1) := by decide +kernel
theorem dL_keeps_21 : decode cL_keeps 21 = .ok (.if_icmp .eq 7, 3) := by decide +kernel
theorem dL_keeps_24 : decode cL_keeps 24 = .ok (.iconst 1, 1) := by decide +kernel
theorem dL_keeps_25 : decode cL_keeps 25 = .ok (.goto 4, 3) := by decide +kernel
theorem dL_keeps_28 : decode cL_keeps 28 = .ok (.iconst 0, 1) := by decide +kernel
theorem dL_keeps_29 : decode cL_keeps 29 = .ok (.istore 15, 2) := by decide +kernel
theorem dL_keeps_31 : decode cL_keeps 31 = .ok (.iload 13, 2) := by decide +kernel
theorem dL_keeps_33 : decode cL_keeps 33 = .ok (.iconst 5, 1) := by decide +kernel
theorem dL_keeps_34 : decode cL_keeps 34 = .ok (.if_icmp .lt 10, 3) := by decide +kernel
theorem dL_keeps_37 : decode cL_keeps 37 = .ok (.aload 12, 2) := by decide +kernel
theorem dL_keeps_39 : decode cL_keeps 39 = .ok (.iconst 0, 1) := by decide +kernel
theorem dL_keeps_40 : decode cL_keeps 40 = .ok (.iaload, 1) := by decide +kernel
theorem dL_keeps_41 : decode cL_keeps 41 = .ok (.ifCond .ne 135, 3) := by decide +kernel
theorem dL_keeps_44 : decode cL_keeps 44 = .ok (.iconst 0, 1) := by decide +kernel
theorem dL_keeps_45 : decode cL_keeps 45 = .ok (.istore 16, 2) := by decide +kernel
theorem dL_keeps_47 : decode cL_keeps 47 = .ok (.iload 16, 2) := by decide +kernel
theorem dL_keeps_49 : decode cL_keeps 49 = .ok (.iconst 4, 1) := by decide +kernel
theorem dL_keeps_50 : decode cL_keeps 50 = .ok (.if_icmp .ge 36, 3) := by decide +kernel
theorem dL_keeps_53 : decode cL_keeps 53 = .ok (.aload 12, 2) := by decide +kernel
theorem dL_keeps_55 : decode cL_keeps 55 = .ok (.iconst 1, 1) := by decide +kernel
theorem dL_keeps_56 : decode cL_keeps 56 = .ok (.iaload, 1) := by decide +kernel
theorem dL_keeps_57 : decode cL_keeps 57 = .ok (.iload 14, 2) := by decide +kernel
theorem dL_keeps_59 : decode cL_keeps 59 = .ok (.invokestatic 85, 3) := by decide +kernel
theorem dL_keeps_62 : decode cL_keeps 62 = .ok (.ifCond .eq 24, 3) := by decide +kernel
theorem dL_keeps_65 : decode cL_keeps 65 = .ok (.iload_n 2, 1) := by decide +kernel
theorem dL_keeps_66 : decode cL_keeps 66 = .ok (.bipush 12, 2) := by decide +kernel
theorem dL_keeps_68 : decode cL_keeps 68 = .ok (.iand, 1) := by decide +kernel
theorem dL_keeps_69 : decode cL_keeps 69 = .ok (.ifCond .le 17, 3) := by decide +kernel
theorem dL_keeps_72 : decode cL_keeps 72 = .ok (.iload 14, 2) := by decide +kernel
theorem dL_keeps_74 : decode cL_keeps 74 = .ok (.iconst 1, 1) := by decide +kernel
theorem dL_keeps_75 : decode cL_keeps 75 = .ok (.iadd, 1) := by decide +kernel
theorem dL_keeps_76 : decode cL_keeps 76 = .ok (.iconst 3, 1) := by decide +kernel
theorem dL_keeps_77 : decode cL_keeps 77 = .ok (.iand, 1) := by decide +kernel
theorem dL_keeps_78 : decode cL_keeps 78 = .ok (.istore 14, 2) := by decide +kernel
theorem dL_keeps_80 : decode cL_keeps 80 = .ok (.iinc 16 1, 3) := by decide +kernel
theorem dL_keeps_83 : decode cL_keeps 83 = .ok (.goto (-36), 3) := by decide +kernel
theorem dL_keeps_86 : decode cL_keeps 86 = .ok (.iload 15, 2) := by decide +kernel
theorem dL_keeps_88 : decode cL_keeps 88 = .ok (.ifCond .ne 24, 3) := by decide +kernel
theorem dL_keeps_91 : decode cL_keeps 91 = .ok (.aload 12, 2) := by decide +kernel
theorem dL_keeps_93 : decode cL_keeps 93 = .ok (.iconst 1, 1) := by decide +kernel
theorem dL_keeps_94 : decode cL_keeps 94 = .ok (.iaload, 1) := by decide +kernel
theorem dL_keeps_95 : decode cL_keeps 95 = .ok (.iload 14, 2) := by decide +kernel
theorem dL_keeps_97 : decode cL_keeps 97 = .ok (.invokestatic 85, 3) := by decide +kernel
theorem dL_keeps_100 : decode cL_keeps 100 = .ok (.ifCond .ne 12, 3) := by decide +kernel
theorem dL_keeps_103 : decode cL_keeps 103 = .ok (.aload 12, 2) := by decide +kernel
theorem dL_keeps_105 : decode cL_keeps 105 = .ok (.iconst 0, 1) := by decide +kernel
theorem dL_keeps_106 : decode cL_keeps 106 = .ok (.iaload, 1) := by decide +kernel
theorem dL_keeps_107 : decode cL_keeps 107 = .ok (.bipush 48, 2) := by decide +kernel
theorem dL_keeps_109 : decode cL_keeps 109 = .ok (.if_icmp .ne 30, 3) := by decide +kernel
theorem dL_keeps_112 : decode cL_keeps 112 = .ok (.aload_n 0, 1) := by decide +kernel
theorem dL_keeps_113 : decode cL_keeps 113 = .ok (.iload 14, 2) := by decide +kernel
theorem dL_keeps_115 : decode cL_keeps 115 = .ok (.invokestatic 108, 3) := by decide +kernel
theorem dL_keeps_118 : decode cL_keeps 118 = .ok (.bipush (-72), 2) := by decide +kernel
theorem dL_keeps_120 : decode cL_keeps 120 = .ok (.if_icmp .ne 17, 3) := by decide +kernel
theorem dL_keeps_123 : decode cL_keeps 123 = .ok (.aload_n 0, 1) := by decide +kernel
theorem dL_keeps_124 : decode cL_keeps 124 = .ok (.iconst 4, 1) := by decide +kernel
theorem dL_keeps_125 : decode cL_keeps 125 = .ok (.invokestatic 108, 3) := by decide +kernel
theorem dL_keeps_128 : decode cL_keeps 128 = .ok (.bipush (-71), 2) := by decide +kernel
theorem dL_keeps_130 : decode cL_keeps 130 = .ok (.if_icmp .ne 7, 3) := by decide +kernel
theorem dL_keeps_133 : decode cL_keeps 133 = .ok (.iconst 1, 1) := by decide +kernel
theorem dL_keeps_134 : decode cL_keeps 134 = .ok (.goto 4, 3) := by decide +kernel
theorem dL_keeps_137 : decode cL_keeps 137 = .ok (.iconst 0, 1) := by decide +kernel
theorem dL_keeps_138 : decode cL_keeps 138 = .ok (.ireturn, 1) := by decide +kernel
theorem dL_keeps_139 : decode cL_keeps 139 = .ok (.aload_n 0, 1) := by decide +kernel
theorem dL_keeps_140 : decode cL_keeps 140 = .ok (.iload 14, 2) := by decide +kernel
theorem dL_keeps_142 : decode cL_keeps 142 = .ok (.invokestatic 108, 3) := by decide +kernel
theorem dL_keeps_145 : decode cL_keeps 145 = .ok (.aload_n 3, 1) := by decide +kernel
theorem dL_keeps_146 : decode cL_keeps 146 = .ok (.aload 4, 2) := by decide +kernel
theorem dL_keeps_148 : decode cL_keeps 148 = .ok (.aload 5, 2) := by decide +kernel
theorem dL_keeps_150 : decode cL_keeps 150 = .ok (.aload 6, 2) := by decide +kernel
theorem dL_keeps_152 : decode cL_keeps 152 = .ok (.aload 8, 2) := by decide +kernel
theorem dL_keeps_154 : decode cL_keeps 154 = .ok (.aload 9, 2) := by decide +kernel
theorem dL_keeps_156 : decode cL_keeps 156 = .ok (.aload 10, 2) := by decide +kernel
theorem dL_keeps_158 : decode cL_keeps 158 = .ok (.aload 11, 2) := by decide +kernel
theorem dL_keeps_160 : decode cL_keeps 160 = .ok (.aload 12, 2) := by decide +kernel
theorem dL_keeps_162 : decode cL_keeps 162 = .ok (.iload 14, 2) := by decide +kernel
theorem dL_keeps_164 : decode cL_keeps 164 = .ok (.invokestatic 111, 3) := by decide +kernel
theorem dL_keeps_167 : decode cL_keeps 167 = .ok (.if_icmp .ne 7, 3) := by decide +kernel
theorem dL_keeps_170 : decode cL_keeps 170 = .ok (.iconst 1, 1) := by decide +kernel
theorem dL_keeps_171 : decode cL_keeps 171 = .ok (.goto 4, 3) := by decide +kernel
theorem dL_keeps_174 : decode cL_keeps 174 = .ok (.iconst 0, 1) := by decide +kernel
theorem dL_keeps_175 : decode cL_keeps 175 = .ok (.ireturn, 1) := by decide +kernel
theorem dL_keeps_176 : decode cL_keeps 176 = .ok (.iload_n 2, 1) := by decide +kernel
theorem dL_keeps_177 : decode cL_keeps 177 = .ok (.iconst 4, 1) := by decide +kernel
theorem dL_keeps_178 : decode cL_keeps 178 = .ok (.ishr, 1) := by decide +kernel
theorem dL_keeps_179 : decode cL_keeps 179 = .ok (.aload 12, 2) := by decide +kernel
theorem dL_keeps_181 : decode cL_keeps 181 = .ok (.iconst 0, 1) := by decide +kernel
theorem dL_keeps_182 : decode cL_keeps 182 = .ok (.iaload, 1) := by decide +kernel
theorem dL_keeps_183 : decode cL_keeps 183 = .ok (.invokestatic 105, 3) := by decide +kernel
theorem dL_keeps_186 : decode cL_keeps 186 = .ok (.istore 16, 2) := by decide +kernel
theorem dL_keeps_188 : decode cL_keeps 188 = .ok (.iload 13, 2) := by decide +kernel
theorem dL_keeps_190 : decode cL_keeps 190 = .ok (.bipush 14, 2) := by decide +kernel
theorem dL_keeps_192 : decode cL_keeps 192 = .ok (.if_icmp .ge 196, 3) := by decide +kernel
theorem dL_keeps_195 : decode cL_keeps 195 = .ok (.iconst 0, 1) := by decide +kernel
theorem dL_keeps_196 : decode cL_keeps 196 = .ok (.istore 17, 2) := by decide +kernel
theorem dL_keeps_198 : decode cL_keeps 198 = .ok (.iload 17, 2) := by decide +kernel
theorem dL_keeps_200 : decode cL_keeps 200 = .ok (.iconst 4, 1) := by decide +kernel
theorem dL_keeps_201 : decode cL_keeps 201 = .ok (.aload 12, 2) := by decide +kernel
theorem dL_keeps_203 : decode cL_keeps 203 = .ok (.iconst 0, 1) := by decide +kernel
theorem dL_keeps_204 : decode cL_keeps 204 = .ok (.iaload, 1) := by decide +kernel
theorem dL_keeps_205 : decode cL_keeps 205 = .ok (.imul, 1) := by decide +kernel
theorem dL_keeps_206 : decode cL_keeps 206 = .ok (.if_icmp .ge 61, 3) := by decide +kernel
theorem dL_keeps_209 : decode cL_keeps 209 = .ok (.aload 12, 2) := by decide +kernel
theorem dL_keeps_211 : decode cL_keeps 211 = .ok (.iconst 1, 1) := by decide +kernel
theorem dL_keeps_212 : decode cL_keeps 212 = .ok (.iaload, 1) := by decide +kernel
theorem dL_keeps_213 : decode cL_keeps 213 = .ok (.iload 14, 2) := by decide +kernel
theorem dL_keeps_215 : decode cL_keeps 215 = .ok (.invokestatic 85, 3) := by decide +kernel
theorem dL_keeps_218 : decode cL_keeps 218 = .ok (.ifCond .ne 14, 3) := by decide +kernel
theorem dL_keeps_221 : decode cL_keeps 221 = .ok (.aload_n 3, 1) := by decide +kernel
theorem dL_keeps_222 : decode cL_keeps 222 = .ok (.iload 16, 2) := by decide +kernel
theorem dL_keeps_224 : decode cL_keeps 224 = .ok (.iload 14, 2) := by decide +kernel
theorem dL_keeps_226 : decode cL_keeps 226 = .ok (.invokestatic 73, 3) := by decide +kernel
theorem dL_keeps_229 : decode cL_keeps 229 = .ok (.ifCond .eq 38, 3) := by decide +kernel
theorem dL_keeps_232 : decode cL_keeps 232 = .ok (.iload 14, 2) := by decide +kernel
theorem dL_keeps_234 : decode cL_keeps 234 = .ok (.iconst 1, 1) := by decide +kernel
theorem dL_keeps_235 : decode cL_keeps 235 = .ok (.iadd, 1) := by decide +kernel
theorem dL_keeps_236 : decode cL_keeps 236 = .ok (.iconst 3, 1) := by decide +kernel
theorem dL_keeps_237 : decode cL_keeps 237 = .ok (.iand, 1) := by decide +kernel
theorem dL_keeps_238 : decode cL_keeps 238 = .ok (.istore 14, 2) := by decide +kernel
theorem dL_keeps_240 : decode cL_keeps 240 = .ok (.iload 14, 2) := by decide +kernel
theorem dL_keeps_242 : decode cL_keeps 242 = .ok (.ifCond .ne 15, 3) := by decide +kernel
theorem dL_keeps_245 : decode cL_keeps 245 = .ok (.iload 16, 2) := by decide +kernel
theorem dL_keeps_247 : decode cL_keeps 247 = .ok (.iconst 1, 1) := by decide +kernel
theorem dL_keeps_248 : decode cL_keeps 248 = .ok (.iadd, 1) := by decide +kernel
theorem dL_keeps_249 : decode cL_keeps 249 = .ok (.aload 12, 2) := by decide +kernel
theorem dL_keeps_251 : decode cL_keeps 251 = .ok (.iconst 0, 1) := by decide +kernel
theorem dL_keeps_252 : decode cL_keeps 252 = .ok (.iaload, 1) := by decide +kernel
theorem dL_keeps_253 : decode cL_keeps 253 = .ok (.irem, 1) := by decide +kernel
theorem dL_keeps_254 : decode cL_keeps 254 = .ok (.goto 5, 3) := by decide +kernel
theorem dL_keeps_257 : decode cL_keeps 257 = .ok (.iload 16, 2) := by decide +kernel
theorem dL_keeps_259 : decode cL_keeps 259 = .ok (.istore 16, 2) := by decide +kernel
theorem dL_keeps_261 : decode cL_keeps 261 = .ok (.iinc 17 1, 3) := by decide +kernel
theorem dL_keeps_264 : decode cL_keeps 264 = .ok (.goto (-66), 3) := by decide +kernel
theorem dL_keeps_267 : decode cL_keeps 267 = .ok (.aload 12, 2) := by decide +kernel
theorem dL_keeps_269 : decode cL_keeps 269 = .ok (.iconst 1, 1) := by decide +kernel
theorem dL_keeps_270 : decode cL_keeps 270 = .ok (.iaload, 1) := by decide +kernel
theorem dL_keeps_271 : decode cL_keeps 271 = .ok (.iload 14, 2) := by decide +kernel
theorem dL_keeps_273 : decode cL_keeps 273 = .ok (.invokestatic 85, 3) := by decide +kernel
theorem dL_keeps_276 : decode cL_keeps 276 = .ok (.ifCond .ne 14, 3) := by decide +kernel
theorem dL_keeps_279 : decode cL_keeps 279 = .ok (.aload_n 3, 1) := by decide +kernel
theorem dL_keeps_280 : decode cL_keeps 280 = .ok (.iload 16, 2) := by decide +kernel
theorem dL_keeps_282 : decode cL_keeps 282 = .ok (.iload 14, 2) := by decide +kernel
theorem dL_keeps_284 : decode cL_keeps 284 = .ok (.invokestatic 73, 3) := by decide +kernel
theorem dL_keeps_287 : decode cL_keeps 287 = .ok (.ifCond .eq 49, 3) := by decide +kernel
theorem dL_keeps_290 : decode cL_keeps 290 = .ok (.aload_n 0, 1) := by decide +kernel
theorem dL_keeps_291 : decode cL_keeps 291 = .ok (.iload 16, 2) := by decide +kernel
theorem dL_keeps_293 : decode cL_keeps 293 = .ok (.iload 14, 2) := by decide +kernel
theorem dL_keeps_295 : decode cL_keeps 295 = .ok (.invokestatic 115, 3) := by decide +kernel
theorem dL_keeps_298 : decode cL_keeps 298 = .ok (.bipush (-72), 2) := by decide +kernel
theorem dL_keeps_300 : decode cL_keeps 300 = .ok (.if_icmp .ne 34, 3) := by decide +kernel
theorem dL_keeps_303 : decode cL_keeps 303 = .ok (.aload_n 0, 1) := by decide +kernel
theorem dL_keeps_304 : decode cL_keeps 304 = .ok (.aload 12, 2) := by decide +kernel
theorem dL_keeps_306 : decode cL_keeps 306 = .ok (.iconst 0, 1) := by decide +kernel
theorem dL_keeps_307 : decode cL_keeps 307 = .ok (.iaload, 1) := by decide +kernel
theorem dL_keeps_308 : decode cL_keeps 308 = .ok (.iload 14, 2) := by decide +kernel
theorem dL_keeps_310 : decode cL_keeps 310 = .ok (.invokestatic 115, 3) := by decide +kernel
theorem dL_keeps_313 : decode cL_keeps 313 = .ok (.bipush (-71), 2) := by decide +kernel
theorem dL_keeps_315 : decode cL_keeps 315 = .ok (.if_icmp .ne 19, 3) := by decide +kernel
theorem dL_keeps_318 : decode cL_keeps 318 = .ok (.aload_n 0, 1) := by decide +kernel
theorem dL_keeps_319 : decode cL_keeps 319 = .ok (.iload 16, 2) := by decide +kernel
theorem dL_keeps_321 : decode cL_keeps 321 = .ok (.iconst (-1), 1) := by decide +kernel
theorem dL_keeps_322 : decode cL_keeps 322 = .ok (.invokestatic 115, 3) := by decide +kernel
theorem dL_keeps_325 : decode cL_keeps 325 = .ok (.bipush (-71), 2) := by decide +kernel
theorem dL_keeps_327 : decode cL_keeps 327 = .ok (.if_icmp .ne 7, 3) := by decide +kernel
theorem dL_keeps_330 : decode cL_keeps 330 = .ok (.iconst 1, 1) := by decide +kernel
theorem dL_keeps_331 : decode cL_keeps 331 = .ok (.goto 4, 3) := by decide +kernel
theorem dL_keeps_334 : decode cL_keeps 334 = .ok (.iconst 0, 1) := by decide +kernel
theorem dL_keeps_335 : decode cL_keeps 335 = .ok (.ireturn, 1) := by decide +kernel
theorem dL_keeps_336 : decode cL_keeps 336 = .ok (.aload 8, 2) := by decide +kernel
theorem dL_keeps_338 : decode cL_keeps 338 = .ok (.aload 10, 2) := by decide +kernel
theorem dL_keeps_340 : decode cL_keeps 340 = .ok (.aload 11, 2) := by decide +kernel
theorem dL_keeps_342 : decode cL_keeps 342 = .ok (.aload 12, 2) := by decide +kernel
theorem dL_keeps_344 : decode cL_keeps 344 = .ok (.iload 16, 2) := by decide +kernel
theorem dL_keeps_346 : decode cL_keeps 346 = .ok (.iload 14, 2) := by decide +kernel
theorem dL_keeps_348 : decode cL_keeps 348 = .ok (.invokestatic 89, 3) := by decide +kernel
theorem dL_keeps_351 : decode cL_keeps 351 = .ok (.aload_n 0, 1) := by decide +kernel
theorem dL_keeps_352 : decode cL_keeps 352 = .ok (.iload 16, 2) := by decide +kernel
theorem dL_keeps_354 : decode cL_keeps 354 = .ok (.iload 14, 2) := by decide +kernel
theorem dL_keeps_356 : decode cL_keeps 356 = .ok (.invokestatic 115, 3) := by decide +kernel
theorem dL_keeps_359 : decode cL_keeps 359 = .ok (.aload_n 3, 1) := by decide +kernel
theorem dL_keeps_360 : decode cL_keeps 360 = .ok (.aload 4, 2) := by decide +kernel
theorem dL_keeps_362 : decode cL_keeps 362 = .ok (.aload 5, 2) := by decide +kernel
theorem dL_keeps_364 : decode cL_keeps 364 = .ok (.aload 6, 2) := by decide +kernel
theorem dL_keeps_366 : decode cL_keeps 366 = .ok (.aload 7, 2) := by decide +kernel
theorem dL_keeps_368 : decode cL_keeps 368 = .ok (.aload 9, 2) := by decide +kernel
theorem dL_keeps_370 : decode cL_keeps 370 = .ok (.aload 12, 2) := by decide +kernel
theorem dL_keeps_372 : decode cL_keeps 372 = .ok (.iload 16, 2) := by decide +kernel
theorem dL_keeps_374 : decode cL_keeps 374 = .ok (.iload 14, 2) := by decide +kernel
theorem dL_keeps_376 : decode cL_keeps 376 = .ok (.invokestatic 97, 3) := by decide +kernel
theorem dL_keeps_379 : decode cL_keeps 379 = .ok (.if_icmp .ne 7, 3) := by decide +kernel
theorem dL_keeps_382 : decode cL_keeps 382 = .ok (.iconst 1, 1) := by decide +kernel
theorem dL_keeps_383 : decode cL_keeps 383 = .ok (.goto 4, 3) := by decide +kernel
theorem dL_keeps_386 : decode cL_keeps 386 = .ok (.iconst 0, 1) := by decide +kernel
theorem dL_keeps_387 : decode cL_keeps 387 = .ok (.ireturn, 1) := by decide +kernel
theorem dL_keeps_388 : decode cL_keeps 388 = .ok (.iload 13, 2) := by decide +kernel
theorem dL_keeps_390 : decode cL_keeps 390 = .ok (.tableswitch 606 14 18 #[34, 115, 225, 376, 468], 34) := by decide +kernel
theorem dL_keeps_424 : decode cL_keeps 424 = .ok (.aload_n 3, 1) := by decide +kernel
theorem dL_keeps_425 : decode cL_keeps 425 = .ok (.iload 16, 2) := by decide +kernel
theorem dL_keeps_427 : decode cL_keeps 427 = .ok (.iload 14, 2) := by decide +kernel
theorem dL_keeps_429 : decode cL_keeps 429 = .ok (.invokestatic 73, 3) := by decide +kernel
theorem dL_keeps_432 : decode cL_keeps 432 = .ok (.ifCond .eq 34, 3) := by decide +kernel
theorem dL_keeps_435 : decode cL_keeps 435 = .ok (.aload_n 0, 1) := by decide +kernel
theorem dL_keeps_436 : decode cL_keeps 436 = .ok (.iload 16, 2) := by decide +kernel
theorem dL_keeps_438 : decode cL_keeps 438 = .ok (.iload 14, 2) := by decide +kernel
theorem dL_keeps_440 : decode cL_keeps 440 = .ok (.invokestatic 118, 3) := by decide +kernel
theorem dL_keeps_443 : decode cL_keeps 443 = .ok (.bipush (-72), 2) := by decide +kernel
theorem dL_keeps_445 : decode cL_keeps 445 = .ok (.if_icmp .ne 19, 3) := by decide +kernel
theorem dL_keeps_448 : decode cL_keeps 448 = .ok (.aload_n 0, 1) := by decide +kernel
theorem dL_keeps_449 : decode cL_keeps 449 = .ok (.iload 16, 2) := by decide +kernel
theorem dL_keeps_451 : decode cL_keeps 451 = .ok (.iconst 4, 1) := by decide +kernel
theorem dL_keeps_452 : decode cL_keeps 452 = .ok (.invokestatic 118, 3) := by decide +kernel
theorem dL_keeps_455 : decode cL_keeps 455 = .ok (.bipush (-71), 2) := by decide +kernel
theorem dL_keeps_457 : decode cL_keeps 457 = .ok (.if_icmp .ne 7, 3) := by decide +kernel
theorem dL_keeps_460 : decode cL_keeps 460 = .ok (.iconst 1, 1) := by decide +kernel
theorem dL_keeps_461 : decode cL_keeps 461 = .ok (.goto 4, 3) := by decide +kernel
theorem dL_keeps_464 : decode cL_keeps 464 = .ok (.iconst 0, 1) := by decide +kernel
theorem dL_keeps_465 : decode cL_keeps 465 = .ok (.ireturn, 1) := by decide +kernel
theorem dL_keeps_466 : decode cL_keeps 466 = .ok (.aload_n 3, 1) := by decide +kernel
theorem dL_keeps_467 : decode cL_keeps 467 = .ok (.iload 16, 2) := by decide +kernel
theorem dL_keeps_469 : decode cL_keeps 469 = .ok (.iload 14, 2) := by decide +kernel
theorem dL_keeps_471 : decode cL_keeps 471 = .ok (.iconst 3, 1) := by decide +kernel
theorem dL_keeps_472 : decode cL_keeps 472 = .ok (.invokestatic 59, 3) := by decide +kernel
theorem dL_keeps_475 : decode cL_keeps 475 = .ok (.aload_n 0, 1) := by decide +kernel
theorem dL_keeps_476 : decode cL_keeps 476 = .ok (.iload 16, 2) := by decide +kernel
theorem dL_keeps_478 : decode cL_keeps 478 = .ok (.iload 14, 2) := by decide +kernel
theorem dL_keeps_480 : decode cL_keeps 480 = .ok (.invokestatic 118, 3) := by decide +kernel
theorem dL_keeps_483 : decode cL_keeps 483 = .ok (.ifCond .ne 20, 3) := by decide +kernel
theorem dL_keeps_486 : decode cL_keeps 486 = .ok (.aload_n 0, 1) := by decide +kernel
theorem dL_keeps_487 : decode cL_keeps 487 = .ok (.iload 16, 2) := by decide +kernel
theorem dL_keeps_489 : decode cL_keeps 489 = .ok (.iload 14, 2) := by decide +kernel
theorem dL_keeps_491 : decode cL_keeps 491 = .ok (.invokestatic 115, 3) := by decide +kernel
theorem dL_keeps_494 : decode cL_keeps 494 = .ok (.bipush (-72), 2) := by decide +kernel
theorem dL_keeps_496 : decode cL_keeps 496 = .ok (.if_icmp .ne 7, 3) := by decide +kernel
theorem dL_keeps_499 : decode cL_keeps 499 = .ok (.iconst 1, 1) := by decide +kernel
theorem dL_keeps_500 : decode cL_keeps 500 = .ok (.goto 4, 3) := by decide +kernel
theorem dL_keeps_503 : decode cL_keeps 503 = .ok (.iconst 0, 1) := by decide +kernel
theorem dL_keeps_504 : decode cL_keeps 504 = .ok (.ireturn, 1) := by decide +kernel
theorem dL_keeps_505 : decode cL_keeps 505 = .ok (.iconst 0, 1) := by decide +kernel
theorem dL_keeps_506 : decode cL_keeps 506 = .ok (.istore 17, 2) := by decide +kernel
theorem dL_keeps_508 : decode cL_keeps 508 = .ok (.iload 17, 2) := by decide +kernel
theorem dL_keeps_510 : decode cL_keeps 510 = .ok (.aload 12, 2) := by decide +kernel
theorem dL_keeps_512 : decode cL_keeps 512 = .ok (.iconst 0, 1) := by decide +kernel
theorem dL_keeps_513 : decode cL_keeps 513 = .ok (.iaload, 1) := by decide +kernel
theorem dL_keeps_514 : decode cL_keeps 514 = .ok (.if_icmp .ge 32, 3) := by decide +kernel
theorem dL_keeps_517 : decode cL_keeps 517 = .ok (.aload_n 3, 1) := by decide +kernel
theorem dL_keeps_518 : decode cL_keeps 518 = .ok (.iload 16, 2) := by decide +kernel
theorem dL_keeps_520 : decode cL_keeps 520 = .ok (.iload 14, 2) := by decide +kernel
theorem dL_keeps_522 : decode cL_keeps 522 = .ok (.invokestatic 73, 3) := by decide +kernel
theorem dL_keeps_525 : decode cL_keeps 525 = .ok (.iconst 3, 1) := by decide +kernel
theorem dL_keeps_526 : decode cL_keeps 526 = .ok (.if_icmp .eq 20, 3) := by decide +kernel
theorem dL_keeps_529 : decode cL_keeps 529 = .ok (.iload 16, 2) := by decide +kernel
theorem dL_keeps_531 : decode cL_keeps 531 = .ok (.iconst 1, 1) := by decide +kernel
theorem dL_keeps_532 : decode cL_keeps 532 = .ok (.iadd, 1) := by decide +kernel
theorem dL_keeps_533 : decode cL_keeps 533 = .ok (.aload 12, 2) := by decide +kernel
theorem dL_keeps_535 : decode cL_keeps 535 = .ok (.iconst 0, 1) := by decide +kernel
theorem dL_keeps_536 : decode cL_keeps 536 = .ok (.iaload, 1) := by decide +kernel
theorem dL_keeps_537 : decode cL_keeps 537 = .ok (.irem, 1) := by decide +kernel
theorem dL_keeps_538 : decode cL_keeps 538 = .ok (.istore 16, 2) := by decide +kernel
theorem dL_keeps_540 : decode cL_keeps 540 = .ok (.iinc 17 1, 3) := by decide +kernel
theorem dL_keeps_543 : decode cL_keeps 543 = .ok (.goto (-35), 3) := by decide +kernel
theorem dL_keeps_546 : decode cL_keeps 546 = .ok (.aload_n 3, 1) := by decide +kernel
theorem dL_keeps_547 : decode cL_keeps 547 = .ok (.iload 16, 2) := by decide +kernel
theorem dL_keeps_549 : decode cL_keeps 549 = .ok (.iload 14, 2) := by decide +kernel
theorem dL_keeps_551 : decode cL_keeps 551 = .ok (.invokestatic 73, 3) := by decide +kernel
theorem dL_keeps_554 : decode cL_keeps 554 = .ok (.iconst 3, 1) := by decide +kernel
theorem dL_keeps_555 : decode cL_keeps 555 = .ok (.if_icmp .eq 34, 3) := by decide +kernel
theorem dL_keeps_558 : decode cL_keeps 558 = .ok (.aload_n 0, 1) := by decide +kernel
theorem dL_keeps_559 : decode cL_keeps 559 = .ok (.iload 16, 2) := by decide +kernel
theorem dL_keeps_561 : decode cL_keeps 561 = .ok (.iload 14, 2) := by decide +kernel
theorem dL_keeps_563 : decode cL_keeps 563 = .ok (.invokestatic 120, 3) := by decide +kernel
theorem dL_keeps_566 : decode cL_keeps 566 = .ok (.bipush (-72), 2) := by decide +kernel
theorem dL_keeps_568 : decode cL_keeps 568 = .ok (.if_icmp .ne 19, 3) := by decide +kernel
theorem dL_keeps_571 : decode cL_keeps 571 = .ok (.aload_n 0, 1) := by decide +kernel
theorem dL_keeps_572 : decode cL_keeps 572 = .ok (.iconst (-1), 1) := by decide +kernel
theorem dL_keeps_573 : decode cL_keeps 573 = .ok (.iload 14, 2) := by decide +kernel
theorem dL_keeps_575 : decode cL_keeps 575 = .ok (.invokestatic 120, 3) := by decide +kernel
theorem dL_keeps_578 : decode cL_keeps 578 = .ok (.bipush (-71), 2) := by decide +kernel
theorem dL_keeps_580 : decode cL_keeps 580 = .ok (.if_icmp .ne 7, 3) := by decide +kernel
theorem dL_keeps_583 : decode cL_keeps 583 = .ok (.iconst 1, 1) := by decide +kernel
theorem dL_keeps_584 : decode cL_keeps 584 = .ok (.goto 4, 3) := by decide +kernel
theorem dL_keeps_587 : decode cL_keeps 587 = .ok (.iconst 0, 1) := by decide +kernel
theorem dL_keeps_588 : decode cL_keeps 588 = .ok (.ireturn, 1) := by decide +kernel
theorem dL_keeps_589 : decode cL_keeps 589 = .ok (.aload_n 3, 1) := by decide +kernel
theorem dL_keeps_590 : decode cL_keeps 590 = .ok (.iload 16, 2) := by decide +kernel
theorem dL_keeps_592 : decode cL_keeps 592 = .ok (.iload 14, 2) := by decide +kernel
theorem dL_keeps_594 : decode cL_keeps 594 = .ok (.iconst 0, 1) := by decide +kernel
theorem dL_keeps_595 : decode cL_keeps 595 = .ok (.invokestatic 59, 3) := by decide +kernel
theorem dL_keeps_598 : decode cL_keeps 598 = .ok (.aload_n 0, 1) := by decide +kernel
theorem dL_keeps_599 : decode cL_keeps 599 = .ok (.iload 16, 2) := by decide +kernel
theorem dL_keeps_601 : decode cL_keeps 601 = .ok (.iload 14, 2) := by decide +kernel
theorem dL_keeps_603 : decode cL_keeps 603 = .ok (.invokestatic 120, 3) := by decide +kernel
theorem dL_keeps_606 : decode cL_keeps 606 = .ok (.ifCond .ne 7, 3) := by decide +kernel
theorem dL_keeps_609 : decode cL_keeps 609 = .ok (.iconst 1, 1) := by decide +kernel
theorem dL_keeps_610 : decode cL_keeps 610 = .ok (.goto 4, 3) := by decide +kernel
theorem dL_keeps_613 : decode cL_keeps 613 = .ok (.iconst 0, 1) := by decide +kernel
theorem dL_keeps_614 : decode cL_keeps 614 = .ok (.ireturn, 1) := by decide +kernel
theorem dL_keeps_615 : decode cL_keeps 615 = .ok (.iload 15, 2) := by decide +kernel
theorem dL_keeps_617 : decode cL_keeps 617 = .ok (.ifCond .ne 19, 3) := by decide +kernel
theorem dL_keeps_620 : decode cL_keeps 620 = .ok (.aload 12, 2) := by decide +kernel
theorem dL_keeps_622 : decode cL_keeps 622 = .ok (.iconst 1, 1) := by decide +kernel
theorem dL_keeps_623 : decode cL_keeps 623 = .ok (.iaload, 1) := by decide +kernel
theorem dL_keeps_624 : decode cL_keeps 624 = .ok (.iload 14, 2) := by decide +kernel
theorem dL_keeps_626 : decode cL_keeps 626 = .ok (.invokestatic 85, 3) := by decide +kernel
theorem dL_keeps_629 : decode cL_keeps 629 = .ok (.ifCond .ne 7, 3) := by decide +kernel
theorem dL_keeps_632 : decode cL_keeps 632 = .ok (.iconst 1, 1) := by decide +kernel
theorem dL_keeps_633 : decode cL_keeps 633 = .ok (.goto 4, 3) := by decide +kernel
theorem dL_keeps_636 : decode cL_keeps 636 = .ok (.iconst 0, 1) := by decide +kernel
theorem dL_keeps_637 : decode cL_keeps 637 = .ok (.istore 17, 2) := by decide +kernel
theorem dL_keeps_639 : decode cL_keeps 639 = .ok (.iconst 0, 1) := by decide +kernel
theorem dL_keeps_640 : decode cL_keeps 640 = .ok (.istore 18, 2) := by decide +kernel
theorem dL_keeps_642 : decode cL_keeps 642 = .ok (.iload 18, 2) := by decide +kernel
theorem dL_keeps_644 : decode cL_keeps 644 = .ok (.aload 12, 2) := by decide +kernel
theorem dL_keeps_646 : decode cL_keeps 646 = .ok (.iconst 0, 1) := by decide +kernel
theorem dL_keeps_647 : decode cL_keeps 647 = .ok (.iaload, 1) := by decide +kernel
theorem dL_keeps_648 : decode cL_keeps 648 = .ok (.if_icmp .ge 42, 3) := by decide +kernel
theorem dL_keeps_651 : decode cL_keeps 651 = .ok (.iload 17, 2) := by decide +kernel
theorem dL_keeps_653 : decode cL_keeps 653 = .ok (.aload 9, 2) := by decide +kernel
theorem dL_keeps_655 : decode cL_keeps 655 = .ok (.iload 18, 2) := by decide +kernel
theorem dL_keeps_657 : decode cL_keeps 657 = .ok (.iaload, 1) := by decide +kernel
theorem dL_keeps_658 : decode cL_keeps 658 = .ok (.ifCond .lt 18, 3) := by decide +kernel
theorem dL_keeps_661 : decode cL_keeps 661 = .ok (.aload 5, 2) := by decide +kernel
theorem dL_keeps_663 : decode cL_keeps 663 = .ok (.iload 14, 2) := by decide +kernel
theorem dL_keeps_665 : decode cL_keeps 665 = .ok (.laload, 1) := by decide +kernel
theorem dL_keeps_666 : decode cL_keeps 666 = .ok (.iload 18, 2) := by decide +kernel
theorem dL_keeps_668 : decode cL_keeps 668 = .ok (.lshr, 1) := by decide +kernel
theorem dL_keeps_669 : decode cL_keeps 669 = .ok (.lconst 1, 1) := by decide +kernel
theorem dL_keeps_670 : decode cL_keeps 670 = .ok (.land, 1) := by decide +kernel
theorem dL_keeps_671 : decode cL_keeps 671 = .ok (.lconst 1, 1) := by decide +kernel
theorem dL_keeps_672 : decode cL_keeps 672 = .ok (.lcmp, 1) := by decide +kernel
theorem dL_keeps_673 : decode cL_keeps 673 = .ok (.ifCond .ne 7, 3) := by decide +kernel
theorem dL_keeps_676 : decode cL_keeps 676 = .ok (.iconst 1, 1) := by decide +kernel
theorem dL_keeps_677 : decode cL_keeps 677 = .ok (.goto 4, 3) := by decide +kernel
theorem dL_keeps_680 : decode cL_keeps 680 = .ok (.iconst 0, 1) := by decide +kernel
theorem dL_keeps_681 : decode cL_keeps 681 = .ok (.iand, 1) := by decide +kernel
theorem dL_keeps_682 : decode cL_keeps 682 = .ok (.istore 17, 2) := by decide +kernel
theorem dL_keeps_684 : decode cL_keeps 684 = .ok (.iinc 18 1, 3) := by decide +kernel
theorem dL_keeps_687 : decode cL_keeps 687 = .ok (.goto (-45), 3) := by decide +kernel
theorem dL_keeps_690 : decode cL_keeps 690 = .ok (.iload 17, 2) := by decide +kernel
theorem dL_keeps_692 : decode cL_keeps 692 = .ok (.ifCond .ne 30, 3) := by decide +kernel
theorem dL_keeps_695 : decode cL_keeps 695 = .ok (.aload_n 0, 1) := by decide +kernel
theorem dL_keeps_696 : decode cL_keeps 696 = .ok (.iload 14, 2) := by decide +kernel
theorem dL_keeps_698 : decode cL_keeps 698 = .ok (.invokestatic 122, 3) := by decide +kernel
theorem dL_keeps_701 : decode cL_keeps 701 = .ok (.bipush (-72), 2) := by decide +kernel
theorem dL_keeps_703 : decode cL_keeps 703 = .ok (.if_icmp .ne 17, 3) := by decide +kernel
theorem dL_keeps_706 : decode cL_keeps 706 = .ok (.aload_n 0, 1) := by decide +kernel
theorem dL_keeps_707 : decode cL_keeps 707 = .ok (.iconst (-1), 1) := by decide +kernel
theorem dL_keeps_708 : decode cL_keeps 708 = .ok (.invokestatic 122, 3) := by decide +kernel
theorem dL_keeps_711 : decode cL_keeps 711 = .ok (.bipush (-71), 2) := by decide +kernel
theorem dL_keeps_713 : decode cL_keeps 713 = .ok (.if_icmp .ne 7, 3) := by decide +kernel
theorem dL_keeps_716 : decode cL_keeps 716 = .ok (.iconst 1, 1) := by decide +kernel
theorem dL_keeps_717 : decode cL_keeps 717 = .ok (.goto 4, 3) := by decide +kernel
theorem dL_keeps_720 : decode cL_keeps 720 = .ok (.iconst 0, 1) := by decide +kernel
theorem dL_keeps_721 : decode cL_keeps 721 = .ok (.ireturn, 1) := by decide +kernel
theorem dL_keeps_722 : decode cL_keeps 722 = .ok (.aload_n 0, 1) := by decide +kernel
theorem dL_keeps_723 : decode cL_keeps 723 = .ok (.iload 14, 2) := by decide +kernel
theorem dL_keeps_725 : decode cL_keeps 725 = .ok (.invokestatic 122, 3) := by decide +kernel
theorem dL_keeps_728 : decode cL_keeps 728 = .ok (.aload 12, 2) := by decide +kernel
theorem dL_keeps_730 : decode cL_keeps 730 = .ok (.iconst 3, 1) := by decide +kernel
theorem dL_keeps_731 : decode cL_keeps 731 = .ok (.iaload, 1) := by decide +kernel
theorem dL_keeps_732 : decode cL_keeps 732 = .ok (.iload 14, 2) := by decide +kernel
theorem dL_keeps_734 : decode cL_keeps 734 = .ok (.if_icmp .ne 7, 3) := by decide +kernel
theorem dL_keeps_737 : decode cL_keeps 737 = .ok (.iconst 0, 1) := by decide +kernel
theorem dL_keeps_738 : decode cL_keeps 738 = .ok (.goto 19, 3) := by decide +kernel
theorem dL_keeps_741 : decode cL_keeps 741 = .ok (.aload_n 3, 1) := by decide +kernel
theorem dL_keeps_742 : decode cL_keeps 742 = .ok (.aload 5, 2) := by decide +kernel
theorem dL_keeps_744 : decode cL_keeps 744 = .ok (.aload 6, 2) := by decide +kernel
theorem dL_keeps_746 : decode cL_keeps 746 = .ok (.aload 9, 2) := by decide +kernel
theorem dL_keeps_748 : decode cL_keeps 748 = .ok (.aload 11, 2) := by decide +kernel
theorem dL_keeps_750 : decode cL_keeps 750 = .ok (.aload 12, 2) := by decide +kernel
theorem dL_keeps_752 : decode cL_keeps 752 = .ok (.iload 14, 2) := by decide +kernel
theorem dL_keeps_754 : decode cL_keeps 754 = .ok (.invokestatic 101, 3) := by decide +kernel
theorem dL_keeps_757 : decode cL_keeps 757 = .ok (.if_icmp .ne 7, 3) := by decide +kernel
theorem dL_keeps_760 : decode cL_keeps 760 = .ok (.iconst 1, 1) := by decide +kernel
theorem dL_keeps_761 : decode cL_keeps 761 = .ok (.goto 4, 3) := by decide +kernel
theorem dL_keeps_764 : decode cL_keeps 764 = .ok (.iconst 0, 1) := by decide +kernel
theorem dL_keeps_765 : decode cL_keeps 765 = .ok (.ireturn, 1) := by decide +kernel
theorem dL_keeps_766 : decode cL_keeps 766 = .ok (.aload 12, 2) := by decide +kernel
theorem dL_keeps_768 : decode cL_keeps 768 = .ok (.iconst 1, 1) := by decide +kernel
theorem dL_keeps_769 : decode cL_keeps 769 = .ok (.iaload, 1) := by decide +kernel
theorem dL_keeps_770 : decode cL_keeps 770 = .ok (.iload 14, 2) := by decide +kernel
theorem dL_keeps_772 : decode cL_keeps 772 = .ok (.invokestatic 85, 3) := by decide +kernel
theorem dL_keeps_775 : decode cL_keeps 775 = .ok (.ifCond .eq 30, 3) := by decide +kernel
theorem dL_keeps_778 : decode cL_keeps 778 = .ok (.aload_n 0, 1) := by decide +kernel
theorem dL_keeps_779 : decode cL_keeps 779 = .ok (.iload 14, 2) := by decide +kernel
theorem dL_keeps_781 : decode cL_keeps 781 = .ok (.invokestatic 124, 3) := by decide +kernel
theorem dL_keeps_784 : decode cL_keeps 784 = .ok (.bipush (-72), 2) := by decide +kernel
theorem dL_keeps_786 : decode cL_keeps 786 = .ok (.if_icmp .ne 17, 3) := by decide +kernel
theorem dL_keeps_789 : decode cL_keeps 789 = .ok (.aload_n 0, 1) := by decide +kernel
theorem dL_keeps_790 : decode cL_keeps 790 = .ok (.iconst 4, 1) := by decide +kernel
theorem dL_keeps_791 : decode cL_keeps 791 = .ok (.invokestatic 124, 3) := by decide +kernel
theorem dL_keeps_794 : decode cL_keeps 794 = .ok (.bipush (-71), 2) := by decide +kernel
theorem dL_keeps_796 : decode cL_keeps 796 = .ok (.if_icmp .ne 7, 3) := by decide +kernel
theorem dL_keeps_799 : decode cL_keeps 799 = .ok (.iconst 1, 1) := by decide +kernel
theorem dL_keeps_800 : decode cL_keeps 800 = .ok (.goto 4, 3) := by decide +kernel
theorem dL_keeps_803 : decode cL_keeps 803 = .ok (.iconst 0, 1) := by decide +kernel
theorem dL_keeps_804 : decode cL_keeps 804 = .ok (.ireturn, 1) := by decide +kernel
theorem dL_keeps_805 : decode cL_keeps 805 = .ok (.aload 12, 2) := by decide +kernel
theorem dL_keeps_807 : decode cL_keeps 807 = .ok (.iconst 5, 1) := by decide +kernel
theorem dL_keeps_808 : decode cL_keeps 808 = .ok (.iaload, 1) := by decide +kernel
theorem dL_keeps_809 : decode cL_keeps 809 = .ok (.aload 11, 2) := by decide +kernel
theorem dL_keeps_811 : decode cL_keeps 811 = .ok (.aload 12, 2) := by decide +kernel
theorem dL_keeps_813 : decode cL_keeps 813 = .ok (.iload 14, 2) := by decide +kernel
theorem dL_keeps_815 : decode cL_keeps 815 = .ok (.invokestatic 93, 3) := by decide +kernel
theorem dL_keeps_818 : decode cL_keeps 818 = .ok (.isub, 1) := by decide +kernel
theorem dL_keeps_819 : decode cL_keeps 819 = .ok (.istore 18, 2) := by decide +kernel
theorem dL_keeps_821 : decode cL_keeps 821 = .ok (.aload 11, 2) := by decide +kernel
theorem dL_keeps_823 : decode cL_keeps 823 = .ok (.iconst 4, 1) := by decide +kernel
theorem dL_keeps_824 : decode cL_keeps 824 = .ok (.iload 14, 2) := by decide +kernel
theorem dL_keeps_826 : decode cL_keeps 826 = .ok (.iadd, 1) := by decide +kernel
theorem dL_keeps_827 : decode cL_keeps 827 = .ok (.aload 12, 2) := by decide +kernel
theorem dL_keeps_829 : decode cL_keeps 829 = .ok (.iconst 5, 1) := by decide +kernel
theorem dL_keeps_830 : decode cL_keeps 830 = .ok (.iaload, 1) := by decide +kernel
theorem dL_keeps_831 : decode cL_keeps 831 = .ok (.iastore, 1) := by decide +kernel
theorem dL_keeps_832 : decode cL_keeps 832 = .ok (.aload_n 0, 1) := by decide +kernel
theorem dL_keeps_833 : decode cL_keeps 833 = .ok (.iload 14, 2) := by decide +kernel
theorem dL_keeps_835 : decode cL_keeps 835 = .ok (.invokestatic 124, 3) := by decide +kernel
theorem dL_keeps_838 : decode cL_keeps 838 = .ok (.iload 18, 2) := by decide +kernel
theorem dL_keeps_840 : decode cL_keeps 840 = .ok (.if_icmp .ne 16, 3) := by decide +kernel
theorem dL_keeps_843 : decode cL_keeps 843 = .ok (.aload_n 0, 1) := by decide +kernel
theorem dL_keeps_844 : decode cL_keeps 844 = .ok (.iload 14, 2) := by decide +kernel
theorem dL_keeps_846 : decode cL_keeps 846 = .ok (.invokestatic 124, 3) := by decide +kernel
theorem dL_keeps_849 : decode cL_keeps 849 = .ok (.ifCond .ne 7, 3) := by decide +kernel
theorem dL_keeps_852 : decode cL_keeps 852 = .ok (.iconst 1, 1) := by decide +kernel
theorem dL_keeps_853 : decode cL_keeps 853 = .ok (.goto 4, 3) := by decide +kernel
theorem dL_keeps_856 : decode cL_keeps 856 = .ok (.iconst 0, 1) := by decide +kernel
theorem dL_keeps_857 : decode cL_keeps 857 = .ok (.ireturn, 1) := by decide +kernel
theorem dL_keeps_858 : decode cL_keeps 858 = .ok (.iload_n 2, 1) := by decide +kernel
theorem dL_keeps_859 : decode cL_keeps 859 = .ok (.sipush 1792, 3) := by decide +kernel
theorem dL_keeps_862 : decode cL_keeps 862 = .ok (.iand, 1) := by decide +kernel
theorem dL_keeps_863 : decode cL_keeps 863 = .ok (.ifCond .le 19, 3) := by decide +kernel
theorem dL_keeps_866 : decode cL_keeps 866 = .ok (.aload_n 0, 1) := by decide +kernel
theorem dL_keeps_867 : decode cL_keeps 867 = .ok (.iconst 4, 1) := by decide +kernel
theorem dL_keeps_868 : decode cL_keeps 868 = .ok (.invokestatic 126, 3) := by decide +kernel
theorem dL_keeps_871 : decode cL_keeps 871 = .ok (.bipush (-71), 2) := by decide +kernel
theorem dL_keeps_873 : decode cL_keeps 873 = .ok (.if_icmp .ne 7, 3) := by decide +kernel
theorem dL_keeps_876 : decode cL_keeps 876 = .ok (.iconst 1, 1) := by decide +kernel
theorem dL_keeps_877 : decode cL_keeps 877 = .ok (.goto 4, 3) := by decide +kernel
theorem dL_keeps_880 : decode cL_keeps 880 = .ok (.iconst 0, 1) := by decide +kernel
theorem dL_keeps_881 : decode cL_keeps 881 = .ok (.ireturn, 1) := by decide +kernel
theorem dL_keeps_882 : decode cL_keeps 882 = .ok (.aload 12, 2) := by decide +kernel
theorem dL_keeps_884 : decode cL_keeps 884 = .ok (.iconst 1, 1) := by decide +kernel
theorem dL_keeps_885 : decode cL_keeps 885 = .ok (.iaload, 1) := by decide +kernel
theorem dL_keeps_886 : decode cL_keeps 886 = .ok (.iload 14, 2) := by decide +kernel
theorem dL_keeps_888 : decode cL_keeps 888 = .ok (.invokestatic 85, 3) := by decide +kernel
theorem dL_keeps_891 : decode cL_keeps 891 = .ok (.ifCond .ne 15, 3) := by decide +kernel
theorem dL_keeps_894 : decode cL_keeps 894 = .ok (.aload 12, 2) := by decide +kernel
theorem dL_keeps_896 : decode cL_keeps 896 = .ok (.iconst 1, 1) := by decide +kernel
theorem dL_keeps_897 : decode cL_keeps 897 = .ok (.iaload, 1) := by decide +kernel
theorem dL_keeps_898 : decode cL_keeps 898 = .ok (.i2l, 1) := by decide +kernel
theorem dL_keeps_899 : decode cL_keeps 899 = .ok (.invokestatic 65, 3) := by decide +kernel
theorem dL_keeps_902 : decode cL_keeps 902 = .ok (.iconst 3, 1) := by decide +kernel
theorem dL_keeps_903 : decode cL_keeps 903 = .ok (.if_icmp .ne 20, 3) := by decide +kernel
theorem dL_keeps_906 : decode cL_keeps 906 = .ok (.aload_n 0, 1) := by decide +kernel
theorem dL_keeps_907 : decode cL_keeps 907 = .ok (.iload 14, 2) := by decide +kernel
theorem dL_keeps_909 : decode cL_keeps 909 = .ok (.invokestatic 126, 3) := by decide +kernel
theorem dL_keeps_912 : decode cL_keeps 912 = .ok (.bipush (-72), 2) := by decide +kernel
theorem dL_keeps_914 : decode cL_keeps 914 = .ok (.if_icmp .ne 7, 3) := by decide +kernel
theorem dL_keeps_917 : decode cL_keeps 917 = .ok (.iconst 1, 1) := by decide +kernel
theorem dL_keeps_918 : decode cL_keeps 918 = .ok (.goto 4, 3) := by decide +kernel
theorem dL_keeps_921 : decode cL_keeps 921 = .ok (.iconst 0, 1) := by decide +kernel
theorem dL_keeps_922 : decode cL_keeps 922 = .ok (.ireturn, 1) := by decide +kernel
theorem dL_keeps_923 : decode cL_keeps 923 = .ok (.aload 11, 2) := by decide +kernel
theorem dL_keeps_925 : decode cL_keeps 925 = .ok (.bipush 8, 2) := by decide +kernel
theorem dL_keeps_927 : decode cL_keeps 927 = .ok (.iload 14, 2) := by decide +kernel
theorem dL_keeps_929 : decode cL_keeps 929 = .ok (.iadd, 1) := by decide +kernel
theorem dL_keeps_930 : decode cL_keeps 930 = .ok (.aload 5, 2) := by decide +kernel
theorem dL_keeps_932 : decode cL_keeps 932 = .ok (.aload 9, 2) := by decide +kernel
theorem dL_keeps_934 : decode cL_keeps 934 = .ok (.aload 11, 2) := by decide +kernel
theorem dL_keeps_936 : decode cL_keeps 936 = .ok (.aload 12, 2) := by decide +kernel
theorem dL_keeps_938 : decode cL_keeps 938 = .ok (.iload 14, 2) := by decide +kernel
theorem dL_keeps_940 : decode cL_keeps 940 = .ok (.invokestatic 128, 3) := by decide +kernel
theorem dL_keeps_943 : decode cL_keeps 943 = .ok (.iastore, 1) := by decide +kernel
theorem dL_keeps_944 : decode cL_keeps 944 = .ok (.aload 12, 2) := by decide +kernel
theorem dL_keeps_946 : decode cL_keeps 946 = .ok (.iconst 1, 1) := by decide +kernel
theorem dL_keeps_947 : decode cL_keeps 947 = .ok (.dup2, 1) := by decide +kernel
theorem dL_keeps_948 : decode cL_keeps 948 = .ok (.iaload, 1) := by decide +kernel
theorem dL_keeps_949 : decode cL_keeps 949 = .ok (.iconst 1, 1) := by decide +kernel
theorem dL_keeps_950 : decode cL_keeps 950 = .ok (.iload 14, 2) := by decide +kernel
theorem dL_keeps_952 : decode cL_keeps 952 = .ok (.ishl, 1) := by decide +kernel
theorem dL_keeps_953 : decode cL_keeps 953 = .ok (.ior, 1) := by decide +kernel
theorem dL_keeps_954 : decode cL_keeps 954 = .ok (.iastore, 1) := by decide +kernel
theorem dL_keeps_955 : decode cL_keeps 955 = .ok (.aload_n 0, 1) := by decide +kernel
theorem dL_keeps_956 : decode cL_keeps 956 = .ok (.iload 14, 2) := by decide +kernel
theorem dL_keeps_958 : decode cL_keeps 958 = .ok (.invokestatic 126, 3) := by decide +kernel
theorem dL_keeps_961 : decode cL_keeps 961 = .ok (.ifCond .ne 33, 3) := by decide +kernel
theorem dL_keeps_964 : decode cL_keeps 964 = .ok (.aload_n 0, 1) := by decide +kernel
theorem dL_keeps_965 : decode cL_keeps 965 = .ok (.iload 14, 2) := by decide +kernel
theorem dL_keeps_967 : decode cL_keeps 967 = .ok (.invokestatic 126, 3) := by decide +kernel
theorem dL_keeps_970 : decode cL_keeps 970 = .ok (.bipush (-72), 2) := by decide +kernel
theorem dL_keeps_972 : decode cL_keeps 972 = .ok (.if_icmp .ne 22, 3) := by decide +kernel
theorem dL_keeps_975 : decode cL_keeps 975 = .ok (.aload_n 0, 1) := by decide +kernel
theorem dL_keeps_976 : decode cL_keeps 976 = .ok (.iload 14, 2) := by decide +kernel
theorem dL_keeps_978 : decode cL_keeps 978 = .ok (.iconst 1, 1) := by decide +kernel
theorem dL_keeps_979 : decode cL_keeps 979 = .ok (.iadd, 1) := by decide +kernel
theorem dL_keeps_980 : decode cL_keeps 980 = .ok (.iconst 4, 1) := by decide +kernel
theorem dL_keeps_981 : decode cL_keeps 981 = .ok (.irem, 1) := by decide +kernel
theorem dL_keeps_982 : decode cL_keeps 982 = .ok (.invokestatic 108, 3) := by decide +kernel
theorem dL_keeps_985 : decode cL_keeps 985 = .ok (.bipush (-72), 2) := by decide +kernel
theorem dL_keeps_987 : decode cL_keeps 987 = .ok (.if_icmp .ne 7, 3) := by decide +kernel
theorem dL_keeps_990 : decode cL_keeps 990 = .ok (.iconst 1, 1) := by decide +kernel
theorem dL_keeps_991 : decode cL_keeps 991 = .ok (.goto 4, 3) := by decide +kernel
theorem dL_keeps_994 : decode cL_keeps 994 = .ok (.iconst 0, 1) := by decide +kernel
theorem dL_keeps_995 : decode cL_keeps 995 = .ok (.ireturn, 1) := by decide +kernel
theorem dL_keeps_996 : decode cL_keeps 996 = .ok (.iload 15, 2) := by decide +kernel
theorem dL_keeps_998 : decode cL_keeps 998 = .ok (.ifCond .ne 18, 3) := by decide +kernel
theorem dL_keeps_1001 : decode cL_keeps 1001 = .ok (.aload_n 0, 1) := by decide +kernel
theorem dL_keeps_1002 : decode cL_keeps 1002 = .ok (.invokestatic 132, 3) := by decide +kernel
theorem dL_keeps_1005 : decode cL_keeps 1005 = .ok (.bipush (-72), 2) := by decide +kernel
theorem dL_keeps_1007 : decode cL_keeps 1007 = .ok (.if_icmp .ne 7, 3) := by decide +kernel
theorem dL_keeps_1010 : decode cL_keeps 1010 = .ok (.iconst 1, 1) := by decide +kernel
theorem dL_keeps_1011 : decode cL_keeps 1011 = .ok (.goto 4, 3) := by decide +kernel
theorem dL_keeps_1014 : decode cL_keeps 1014 = .ok (.iconst 0, 1) := by decide +kernel
theorem dL_keeps_1015 : decode cL_keeps 1015 = .ok (.ireturn, 1) := by decide +kernel
theorem dL_keeps_1016 : decode cL_keeps 1016 = .ok (.aload_n 0, 1) := by decide +kernel
theorem dL_keeps_1017 : decode cL_keeps 1017 = .ok (.invokestatic 132, 3) := by decide +kernel
theorem dL_keeps_1020 : decode cL_keeps 1020 = .ok (.aload_n 3, 1) := by decide +kernel
theorem dL_keeps_1021 : decode cL_keeps 1021 = .ok (.aload 4, 2) := by decide +kernel
theorem dL_keeps_1023 : decode cL_keeps 1023 = .ok (.aload 5, 2) := by decide +kernel
theorem dL_keeps_1025 : decode cL_keeps 1025 = .ok (.aload 6, 2) := by decide +kernel
theorem dL_keeps_1027 : decode cL_keeps 1027 = .ok (.aload 7, 2) := by decide +kernel
theorem dL_keeps_1029 : decode cL_keeps 1029 = .ok (.aload 8, 2) := by decide +kernel
theorem dL_keeps_1031 : decode cL_keeps 1031 = .ok (.aload 9, 2) := by decide +kernel
theorem dL_keeps_1033 : decode cL_keeps 1033 = .ok (.aload 10, 2) := by decide +kernel
theorem dL_keeps_1035 : decode cL_keeps 1035 = .ok (.aload 11, 2) := by decide +kernel
theorem dL_keeps_1037 : decode cL_keeps 1037 = .ok (.aload 12, 2) := by decide +kernel
theorem dL_keeps_1039 : decode cL_keeps 1039 = .ok (.invokestatic 135, 3) := by decide +kernel
theorem dL_keeps_1042 : decode cL_keeps 1042 = .ok (.if_icmp .ne 16, 3) := by decide +kernel
theorem dL_keeps_1045 : decode cL_keeps 1045 = .ok (.aload_n 0, 1) := by decide +kernel
theorem dL_keeps_1046 : decode cL_keeps 1046 = .ok (.invokestatic 132, 3) := by decide +kernel
theorem dL_keeps_1049 : decode cL_keeps 1049 = .ok (.bipush (-72), 2) := by decide +kernel
theorem dL_keeps_1051 : decode cL_keeps 1051 = .ok (.if_icmp .ne 7, 3) := by decide +kernel
theorem dL_keeps_1054 : decode cL_keeps 1054 = .ok (.iconst 1, 1) := by decide +kernel
theorem dL_keeps_1055 : decode cL_keeps 1055 = .ok (.goto 4, 3) := by decide +kernel
theorem dL_keeps_1058 : decode cL_keeps 1058 = .ok (.iconst 0, 1) := by decide +kernel
theorem dL_keeps_1059 : decode cL_keeps 1059 = .ok (.ireturn, 1) := by decide +kernel
theorem dL_isRead_0 : decode cL_isRead 0 = .ok (.iconst 0, 1) := by decide +kernel
theorem dL_isRead_1 : decode cL_isRead 1 = .ok (.istore 12, 2) := by decide +kernel
theorem dL_isRead_3 : decode cL_isRead 3 = .ok (.iload 12, 2) := by decide +kernel
theorem dL_isRead_5 : decode cL_isRead 5 = .ok (.iconst 4, 1) := by decide +kernel
theorem dL_isRead_6 : decode cL_isRead 6 = .ok (.if_icmp .ge 426, 3) := by decide +kernel
theorem dL_isRead_9 : decode cL_isRead 9 = .ok (.iconst 0, 1) := by decide +kernel
theorem dL_isRead_10 : decode cL_isRead 10 = .ok (.istore 13, 2) := by decide +kernel
theorem dL_isRead_12 : decode cL_isRead 12 = .ok (.iconst 0, 1) := by decide +kernel
theorem dL_isRead_13 : decode cL_isRead 13 = .ok (.istore 14, 2) := by decide +kernel
theorem dL_isRead_15 : decode cL_isRead 15 = .ok (.iload 14, 2) := by decide +kernel
theorem dL_isRead_17 : decode cL_isRead 17 = .ok (.aload 11, 2) := by decide +kernel
theorem dL_isRead_19 : decode cL_isRead 19 = .ok (.iconst 0, 1) := by decide +kernel
theorem dL_isRead_20 : decode cL_isRead 20 = .ok (.iaload, 1) := by decide +kernel
theorem dL_isRead_21 : decode cL_isRead 21 = .ok (.if_icmp .ge 228, 3) := by decide +kernel
theorem dL_isRead_24 : decode cL_isRead 24 = .ok (.aload 11, 2) := by decide +kernel
theorem dL_isRead_26 : decode cL_isRead 26 = .ok (.iconst 1, 1) := by decide +kernel
theorem dL_isRead_27 : decode cL_isRead 27 = .ok (.iaload, 1) := by decide +kernel
theorem dL_isRead_28 : decode cL_isRead 28 = .ok (.iload 12, 2) := by decide +kernel
theorem dL_isRead_30 : decode cL_isRead 30 = .ok (.invokestatic 85, 3) := by decide +kernel
theorem dL_isRead_33 : decode cL_isRead 33 = .ok (.ifCond .eq 39, 3) := by decide +kernel
theorem dL_isRead_36 : decode cL_isRead 36 = .ok (.aload 6, 2) := by decide +kernel
theorem dL_isRead_38 : decode cL_isRead 38 = .ok (.iload 14, 2) := by decide +kernel
theorem dL_isRead_40 : decode cL_isRead 40 = .ok (.laload, 1) := by decide +kernel
theorem dL_isRead_41 : decode cL_isRead 41 = .ok (.iload 12, 2) := by decide +kernel
theorem dL_isRead_43 : decode cL_isRead 43 = .ok (.invokestatic 77, 3) := by decide +kernel
theorem dL_isRead_46 : decode cL_isRead 46 = .ok (.ifCond .le 22, 3) := by decide +kernel
theorem dL_isRead_49 : decode cL_isRead 49 = .ok (.aload 4, 2) := by decide +kernel
theorem dL_isRead_51 : decode cL_isRead 51 = .ok (.iload 12, 2) := by decide +kernel
theorem dL_isRead_53 : decode cL_isRead 53 = .ok (.laload, 1) := by decide +kernel
theorem dL_isRead_54 : decode cL_isRead 54 = .ok (.iload 14, 2) := by decide +kernel
theorem dL_isRead_56 : decode cL_isRead 56 = .ok (.lshr, 1) := by decide +kernel
theorem dL_isRead_57 : decode cL_isRead 57 = .ok (.lconst 1, 1) := by decide +kernel
theorem dL_isRead_58 : decode cL_isRead 58 = .ok (.land, 1) := by decide +kernel
theorem dL_isRead_59 : decode cL_isRead 59 = .ok (.lconst 0, 1) := by decide +kernel
theorem dL_isRead_60 : decode cL_isRead 60 = .ok (.lcmp, 1) := by decide +kernel
theorem dL_isRead_61 : decode cL_isRead 61 = .ok (.ifCond .ne 7, 3) := by decide +kernel
theorem dL_isRead_64 : decode cL_isRead 64 = .ok (.iconst 1, 1) := by decide +kernel
theorem dL_isRead_65 : decode cL_isRead 65 = .ok (.goto 24, 3) := by decide +kernel
theorem dL_isRead_68 : decode cL_isRead 68 = .ok (.iconst 0, 1) := by decide +kernel
theorem dL_isRead_69 : decode cL_isRead 69 = .ok (.goto 20, 3) := by decide +kernel
theorem dL_isRead_72 : decode cL_isRead 72 = .ok (.aload_n 2, 1) := by decide +kernel
theorem dL_isRead_73 : decode cL_isRead 73 = .ok (.iload 14, 2) := by decide +kernel
theorem dL_isRead_75 : decode cL_isRead 75 = .ok (.iload 12, 2) := by decide +kernel
theorem dL_isRead_77 : decode cL_isRead 77 = .ok (.invokestatic 73, 3) := by decide +kernel
theorem dL_isRead_80 : decode cL_isRead 80 = .ok (.iconst 1, 1) := by decide +kernel
theorem dL_isRead_81 : decode cL_isRead 81 = .ok (.if_icmp .ne 7, 3) := by decide +kernel
theorem dL_isRead_84 : decode cL_isRead 84 = .ok (.iconst 1, 1) := by decide +kernel
theorem dL_isRead_85 : decode cL_isRead 85 = .ok (.goto 4, 3) := by decide +kernel
theorem dL_isRead_88 : decode cL_isRead 88 = .ok (.iconst 0, 1) := by decide +kernel
theorem dL_isRead_89 : decode cL_isRead 89 = .ok (.istore 15, 2) := by decide +kernel
theorem dL_isRead_91 : decode cL_isRead 91 = .ok (.iload 15, 2) := by decide +kernel
theorem dL_isRead_93 : decode cL_isRead 93 = .ok (.ifCond .ne 6, 3) := by decide +kernel
theorem dL_isRead_96 : decode cL_isRead 96 = .ok (.goto 147, 3) := by decide +kernel
theorem dL_isRead_99 : decode cL_isRead 99 = .ok (.iconst 0, 1) := by decide +kernel
theorem dL_isRead_100 : decode cL_isRead 100 = .ok (.istore 16, 2) := by decide +kernel
theorem dL_isRead_102 : decode cL_isRead 102 = .ok (.iconst 0, 1) := by decide +kernel
theorem dL_isRead_103 : decode cL_isRead 103 = .ok (.istore 17, 2) := by decide +kernel
theorem dL_isRead_105 : decode cL_isRead 105 = .ok (.iload 17, 2) := by decide +kernel
theorem dL_isRead_107 : decode cL_isRead 107 = .ok (.aload 11, 2) := by decide +kernel
theorem dL_isRead_109 : decode cL_isRead 109 = .ok (.iconst 0, 1) := by decide +kernel
theorem dL_isRead_110 : decode cL_isRead 110 = .ok (.iaload, 1) := by decide +kernel
theorem dL_isRead_111 : decode cL_isRead 111 = .ok (.if_icmp .ge 114, 3) := by decide +kernel
theorem dL_isRead_114 : decode cL_isRead 114 = .ok (.aload 11, 2) := by decide +kernel
theorem dL_isRead_116 : decode cL_isRead 116 = .ok (.iconst 1, 1) := by decide +kernel
theorem dL_isRead_117 : decode cL_isRead 117 = .ok (.iaload, 1) := by decide +kernel
theorem dL_isRead_118 : decode cL_isRead 118 = .ok (.iload 12, 2) := by decide +kernel
theorem dL_isRead_120 : decode cL_isRead 120 = .ok (.invokestatic 85, 3) := by decide +kernel
theorem dL_isRead_123 : decode cL_isRead 123 = .ok (.ifCond .eq 39, 3) := by decide +kernel
theorem dL_isRead_126 : decode cL_isRead 126 = .ok (.aload 6, 2) := by decide +kernel
theorem dL_isRead_128 : decode cL_isRead 128 = .ok (.iload 17, 2) := by decide +kernel
theorem dL_isRead_130 : decode cL_isRead 130 = .ok (.laload, 1) := by decide +kernel
theorem dL_isRead_131 : decode cL_isRead 131 = .ok (.iload 12, 2) := by decide +kernel
theorem dL_isRead_133 : decode cL_isRead 133 = .ok (.invokestatic 77, 3) := by decide +kernel
theorem dL_isRead_136 : decode cL_isRead 136 = .ok (.ifCond .le 22, 3) := by decide +kernel
theorem dL_isRead_139 : decode cL_isRead 139 = .ok (.aload 4, 2) := by decide +kernel
theorem dL_isRead_141 : decode cL_isRead 141 = .ok (.iload 12, 2) := by decide +kernel
theorem dL_isRead_143 : decode cL_isRead 143 = .ok (.laload, 1) := by decide +kernel
theorem dL_isRead_144 : decode cL_isRead 144 = .ok (.iload 17, 2) := by decide +kernel
theorem dL_isRead_146 : decode cL_isRead 146 = .ok (.lshr, 1) := by decide +kernel
theorem dL_isRead_147 : decode cL_isRead 147 = .ok (.lconst 1, 1) := by decide +kernel
theorem dL_isRead_148 : decode cL_isRead 148 = .ok (.land, 1) := by decide +kernel
theorem dL_isRead_149 : decode cL_isRead 149 = .ok (.lconst 0, 1) := by decide +kernel
theorem dL_isRead_150 : decode cL_isRead 150 = .ok (.lcmp, 1) := by decide +kernel
theorem dL_isRead_151 : decode cL_isRead 151 = .ok (.ifCond .ne 7, 3) := by decide +kernel
theorem dL_isRead_154 : decode cL_isRead 154 = .ok (.iconst 1, 1) := by decide +kernel
theorem dL_isRead_155 : decode cL_isRead 155 = .ok (.goto 24, 3) := by decide +kernel
theorem dL_isRead_158 : decode cL_isRead 158 = .ok (.iconst 0, 1) := by decide +kernel
theorem dL_isRead_159 : decode cL_isRead 159 = .ok (.goto 20, 3) := by decide +kernel
theorem dL_isRead_162 : decode cL_isRead 162 = .ok (.aload_n 2, 1) := by decide +kernel
theorem dL_isRead_163 : decode cL_isRead 163 = .ok (.iload 17, 2) := by decide +kernel
theorem dL_isRead_165 : decode cL_isRead 165 = .ok (.iload 12, 2) := by decide +kernel
theorem dL_isRead_167 : decode cL_isRead 167 = .ok (.invokestatic 73, 3) := by decide +kernel
theorem dL_isRead_170 : decode cL_isRead 170 = .ok (.iconst 1, 1) := by decide +kernel
theorem dL_isRead_171 : decode cL_isRead 171 = .ok (.if_icmp .ne 7, 3) := by decide +kernel
theorem dL_isRead_174 : decode cL_isRead 174 = .ok (.iconst 1, 1) := by decide +kernel
theorem dL_isRead_175 : decode cL_isRead 175 = .ok (.goto 4, 3) := by decide +kernel
theorem dL_isRead_178 : decode cL_isRead 178 = .ok (.iconst 0, 1) := by decide +kernel
theorem dL_isRead_179 : decode cL_isRead 179 = .ok (.istore 18, 2) := by decide +kernel
theorem dL_isRead_181 : decode cL_isRead 181 = .ok (.iload 16, 2) := by decide +kernel
theorem dL_isRead_183 : decode cL_isRead 183 = .ok (.iload 18, 2) := by decide +kernel
theorem dL_isRead_185 : decode cL_isRead 185 = .ok (.ifCond .eq 30, 3) := by decide +kernel
theorem dL_isRead_188 : decode cL_isRead 188 = .ok (.aload 6, 2) := by decide +kernel
theorem dL_isRead_190 : decode cL_isRead 190 = .ok (.iload 17, 2) := by decide +kernel
theorem dL_isRead_192 : decode cL_isRead 192 = .ok (.laload, 1) := by decide +kernel
theorem dL_isRead_193 : decode cL_isRead 193 = .ok (.iload 12, 2) := by decide +kernel
theorem dL_isRead_195 : decode cL_isRead 195 = .ok (.invokestatic 77, 3) := by decide +kernel
theorem dL_isRead_198 : decode cL_isRead 198 = .ok (.aload 6, 2) := by decide +kernel
theorem dL_isRead_200 : decode cL_isRead 200 = .ok (.iload 14, 2) := by decide +kernel
theorem dL_isRead_202 : decode cL_isRead 202 = .ok (.laload, 1) := by decide +kernel
theorem dL_isRead_203 : decode cL_isRead 203 = .ok (.iload 12, 2) := by decide +kernel
theorem dL_isRead_205 : decode cL_isRead 205 = .ok (.invokestatic 77, 3) := by decide +kernel
theorem dL_isRead_208 : decode cL_isRead 208 = .ok (.if_icmp .ge 7, 3) := by decide +kernel
theorem dL_isRead_211 : decode cL_isRead 211 = .ok (.iconst 1, 1) := by decide +kernel
theorem dL_isRead_212 : decode cL_isRead 212 = .ok (.goto 4, 3) := by decide +kernel
theorem dL_isRead_215 : decode cL_isRead 215 = .ok (.iconst 0, 1) := by decide +kernel
theorem dL_isRead_216 : decode cL_isRead 216 = .ok (.iadd, 1) := by decide +kernel
theorem dL_isRead_217 : decode cL_isRead 217 = .ok (.istore 16, 2) := by decide +kernel
theorem dL_isRead_219 : decode cL_isRead 219 = .ok (.iinc 17 1, 3) := by decide +kernel
theorem dL_isRead_222 : decode cL_isRead 222 = .ok (.goto (-117), 3) := by decide +kernel
theorem dL_isRead_225 : decode cL_isRead 225 = .ok (.aload_n 0, 1) := by decide +kernel
theorem dL_isRead_226 : decode cL_isRead 226 = .ok (.iload 12, 2) := by decide +kernel
theorem dL_isRead_228 : decode cL_isRead 228 = .ok (.iload 16, 2) := by decide +kernel
theorem dL_isRead_230 : decode cL_isRead 230 = .ok (.invokestatic 139, 3) := by decide +kernel
theorem dL_isRead_233 : decode cL_isRead 233 = .ok (.iload 14, 2) := by decide +kernel
theorem dL_isRead_235 : decode cL_isRead 235 = .ok (.if_icmp .eq 5, 3) := by decide +kernel
theorem dL_isRead_238 : decode cL_isRead 238 = .ok (.iconst 0, 1) := by decide +kernel
theorem dL_isRead_239 : decode cL_isRead 239 = .ok (.ireturn, 1) := by decide +kernel
theorem dL_isRead_240 : decode cL_isRead 240 = .ok (.iinc 13 1, 3) := by decide +kernel
theorem dL_isRead_243 : decode cL_isRead 243 = .ok (.iinc 14 1, 3) := by decide +kernel
theorem dL_isRead_246 : decode cL_isRead 246 = .ok (.goto (-231), 3) := by decide +kernel
theorem dL_isRead_249 : decode cL_isRead 249 = .ok (.iconst 0, 1) := by decide +kernel
theorem dL_isRead_250 : decode cL_isRead 250 = .ok (.istore 14, 2) := by decide +kernel
theorem dL_isRead_252 : decode cL_isRead 252 = .ok (.iload 14, 2) := by decide +kernel
theorem dL_isRead_254 : decode cL_isRead 254 = .ok (.iconst 4, 1) := by decide +kernel
theorem dL_isRead_255 : decode cL_isRead 255 = .ok (.if_icmp .ge 38, 3) := by decide +kernel
theorem dL_isRead_258 : decode cL_isRead 258 = .ok (.aload_n 0, 1) := by decide +kernel
theorem dL_isRead_259 : decode cL_isRead 259 = .ok (.iload 12, 2) := by decide +kernel
theorem dL_isRead_261 : decode cL_isRead 261 = .ok (.iload 14, 2) := by decide +kernel
theorem dL_isRead_263 : decode cL_isRead 263 = .ok (.invokevirtual 141, 3) := by decide +kernel
theorem dL_isRead_266 : decode cL_isRead 266 = .ok (.aload 4, 2) := by decide +kernel
theorem dL_isRead_268 : decode cL_isRead 268 = .ok (.iload 12, 2) := by decide +kernel
theorem dL_isRead_270 : decode cL_isRead 270 = .ok (.laload, 1) := by decide +kernel
theorem dL_isRead_271 : decode cL_isRead 271 = .ok (.aload 4, 2) := by decide +kernel
theorem dL_isRead_273 : decode cL_isRead 273 = .ok (.iconst 4, 1) := by decide +kernel
theorem dL_isRead_274 : decode cL_isRead 274 = .ok (.iload 14, 2) := by decide +kernel
theorem dL_isRead_276 : decode cL_isRead 276 = .ok (.iadd, 1) := by decide +kernel
theorem dL_isRead_277 : decode cL_isRead 277 = .ok (.laload, 1) := by decide +kernel
theorem dL_isRead_278 : decode cL_isRead 278 = .ok (.land, 1) := by decide +kernel
theorem dL_isRead_279 : decode cL_isRead 279 = .ok (.invokestatic 65, 3) := by decide +kernel
theorem dL_isRead_282 : decode cL_isRead 282 = .ok (.if_icmp .eq 5, 3) := by decide +kernel
theorem dL_isRead_285 : decode cL_isRead 285 = .ok (.iconst 0, 1) := by decide +kernel
theorem dL_isRead_286 : decode cL_isRead 286 = .ok (.ireturn, 1) := by decide +kernel
theorem dL_isRead_287 : decode cL_isRead 287 = .ok (.iinc 14 1, 3) := by decide +kernel
theorem dL_isRead_290 : decode cL_isRead 290 = .ok (.goto (-38), 3) := by decide +kernel
theorem dL_isRead_293 : decode cL_isRead 293 = .ok (.aload_n 0, 1) := by decide +kernel
theorem dL_isRead_294 : decode cL_isRead 294 = .ok (.iload 12, 2) := by decide +kernel
theorem dL_isRead_296 : decode cL_isRead 296 = .ok (.invokevirtual 144, 3) := by decide +kernel
theorem dL_isRead_299 : decode cL_isRead 299 = .ok (.iload 13, 2) := by decide +kernel
theorem dL_isRead_301 : decode cL_isRead 301 = .ok (.if_icmp .ne 123, 3) := by decide +kernel
theorem dL_isRead_304 : decode cL_isRead 304 = .ok (.aload_n 0, 1) := by decide +kernel
theorem dL_isRead_305 : decode cL_isRead 305 = .ok (.iload 12, 2) := by decide +kernel
theorem dL_isRead_307 : decode cL_isRead 307 = .ok (.iload 13, 2) := by decide +kernel
theorem dL_isRead_309 : decode cL_isRead 309 = .ok (.invokestatic 139, 3) := by decide +kernel
theorem dL_isRead_312 : decode cL_isRead 312 = .ok (.bipush (-71), 2) := by decide +kernel
theorem dL_isRead_314 : decode cL_isRead 314 = .ok (.if_icmp .ne 110, 3) := by decide +kernel
theorem dL_isRead_317 : decode cL_isRead 317 = .ok (.aload_n 0, 1) := by decide +kernel
theorem dL_isRead_318 : decode cL_isRead 318 = .ok (.iload 12, 2) := by decide +kernel
theorem dL_isRead_320 : decode cL_isRead 320 = .ok (.invokevirtual 147, 3) := by decide +kernel
theorem dL_isRead_323 : decode cL_isRead 323 = .ok (.aload 4, 2) := by decide +kernel
theorem dL_isRead_325 : decode cL_isRead 325 = .ok (.iload 12, 2) := by decide +kernel
theorem dL_isRead_327 : decode cL_isRead 327 = .ok (.laload, 1) := by decide +kernel
theorem dL_isRead_328 : decode cL_isRead 328 = .ok (.invokestatic 65, 3) := by decide +kernel
theorem dL_isRead_331 : decode cL_isRead 331 = .ok (.if_icmp .ne 93, 3) := by decide +kernel
theorem dL_isRead_334 : decode cL_isRead 334 = .ok (.aload_n 0, 1) := by decide +kernel
theorem dL_isRead_335 : decode cL_isRead 335 = .ok (.iload 12, 2) := by decide +kernel
theorem dL_isRead_337 : decode cL_isRead 337 = .ok (.aload 4, 2) := by decide +kernel
theorem dL_isRead_339 : decode cL_isRead 339 = .ok (.iload 12, 2) := by decide +kernel
theorem dL_isRead_341 : decode cL_isRead 341 = .ok (.laload, 1) := by decide +kernel
theorem dL_isRead_342 : decode cL_isRead 342 = .ok (.invokestatic 65, 3) := by decide +kernel
theorem dL_isRead_345 : decode cL_isRead 345 = .ok (.invokestatic 150, 3) := by decide +kernel
theorem dL_isRead_348 : decode cL_isRead 348 = .ok (.bipush (-71), 2) := by decide +kernel
theorem dL_isRead_350 : decode cL_isRead 350 = .ok (.if_icmp .ne 74, 3) := by decide +kernel
theorem dL_isRead_353 : decode cL_isRead 353 = .ok (.aload_n 0, 1) := by decide +kernel
theorem dL_isRead_354 : decode cL_isRead 354 = .ok (.iload 12, 2) := by decide +kernel
theorem dL_isRead_356 : decode cL_isRead 356 = .ok (.invokevirtual 152, 3) := by decide +kernel
theorem dL_isRead_359 : decode cL_isRead 359 = .ok (.aload 11, 2) := by decide +kernel
theorem dL_isRead_361 : decode cL_isRead 361 = .ok (.iconst 1, 1) := by decide +kernel
theorem dL_isRead_362 : decode cL_isRead 362 = .ok (.iaload, 1) := by decide +kernel
theorem dL_isRead_363 : decode cL_isRead 363 = .ok (.iload 12, 2) := by decide +kernel
theorem dL_isRead_365 : decode cL_isRead 365 = .ok (.invokestatic 85, 3) := by decide +kernel
theorem dL_isRead_368 : decode cL_isRead 368 = .ok (.ifCond .ne 7, 3) := by decide +kernel
theorem dL_isRead_371 : decode cL_isRead 371 = .ok (.iconst 1, 1) := by decide +kernel
theorem dL_isRead_372 : decode cL_isRead 372 = .ok (.goto 4, 3) := by decide +kernel
theorem dL_isRead_375 : decode cL_isRead 375 = .ok (.iconst 0, 1) := by decide +kernel
theorem dL_isRead_376 : decode cL_isRead 376 = .ok (.if_icmp .ne 48, 3) := by decide +kernel
theorem dL_isRead_379 : decode cL_isRead 379 = .ok (.aload_n 0, 1) := by decide +kernel
theorem dL_isRead_380 : decode cL_isRead 380 = .ok (.iload 12, 2) := by decide +kernel
theorem dL_isRead_382 : decode cL_isRead 382 = .ok (.invokevirtual 156, 3) := by decide +kernel
theorem dL_isRead_385 : decode cL_isRead 385 = .ok (.aload 11, 2) := by decide +kernel
theorem dL_isRead_387 : decode cL_isRead 387 = .ok (.iconst 1, 1) := by decide +kernel
theorem dL_isRead_388 : decode cL_isRead 388 = .ok (.iaload, 1) := by decide +kernel
theorem dL_isRead_389 : decode cL_isRead 389 = .ok (.iload 12, 2) := by decide +kernel
theorem dL_isRead_391 : decode cL_isRead 391 = .ok (.invokestatic 85, 3) := by decide +kernel
theorem dL_isRead_394 : decode cL_isRead 394 = .ok (.ifCond .eq 14, 3) := by decide +kernel
theorem dL_isRead_397 : decode cL_isRead 397 = .ok (.aload 10, 2) := by decide +kernel
theorem dL_isRead_399 : decode cL_isRead 399 = .ok (.bipush 8, 2) := by decide +kernel
theorem dL_isRead_401 : decode cL_isRead 401 = .ok (.iload 12, 2) := by decide +kernel
theorem dL_isRead_403 : decode cL_isRead 403 = .ok (.iadd, 1) := by decide +kernel
theorem dL_isRead_404 : decode cL_isRead 404 = .ok (.iaload, 1) := by decide +kernel
theorem dL_isRead_405 : decode cL_isRead 405 = .ok (.goto 16, 3) := by decide +kernel
theorem dL_isRead_408 : decode cL_isRead 408 = .ok (.aload 4, 2) := by decide +kernel
theorem dL_isRead_410 : decode cL_isRead 410 = .ok (.aload 8, 2) := by decide +kernel
theorem dL_isRead_412 : decode cL_isRead 412 = .ok (.aload 10, 2) := by decide +kernel
theorem dL_isRead_414 : decode cL_isRead 414 = .ok (.aload 11, 2) := by decide +kernel
theorem dL_isRead_416 : decode cL_isRead 416 = .ok (.iload 12, 2) := by decide +kernel
theorem dL_isRead_418 : decode cL_isRead 418 = .ok (.invokestatic 128, 3) := by decide +kernel
theorem dL_isRead_421 : decode cL_isRead 421 = .ok (.if_icmp .eq 5, 3) := by decide +kernel
theorem dL_isRead_424 : decode cL_isRead 424 = .ok (.iconst 0, 1) := by decide +kernel
theorem dL_isRead_425 : decode cL_isRead 425 = .ok (.ireturn, 1) := by decide +kernel
theorem dL_isRead_426 : decode cL_isRead 426 = .ok (.iinc 12 1, 3) := by decide +kernel
theorem dL_isRead_429 : decode cL_isRead 429 = .ok (.goto (-426), 3) := by decide +kernel
theorem dL_isRead_432 : decode cL_isRead 432 = .ok (.iconst 0, 1) := by decide +kernel
theorem dL_isRead_433 : decode cL_isRead 433 = .ok (.istore 12, 2) := by decide +kernel
theorem dL_isRead_435 : decode cL_isRead 435 = .ok (.iconst 0, 1) := by decide +kernel
theorem dL_isRead_436 : decode cL_isRead 436 = .ok (.istore 13, 2) := by decide +kernel
theorem dL_isRead_438 : decode cL_isRead 438 = .ok (.iload 13, 2) := by decide +kernel
theorem dL_isRead_440 : decode cL_isRead 440 = .ok (.aload 11, 2) := by decide +kernel
theorem dL_isRead_442 : decode cL_isRead 442 = .ok (.iconst 0, 1) := by decide +kernel
theorem dL_isRead_443 : decode cL_isRead 443 = .ok (.iaload, 1) := by decide +kernel
theorem dL_isRead_444 : decode cL_isRead 444 = .ok (.if_icmp .ge 276, 3) := by decide +kernel
theorem dL_isRead_447 : decode cL_isRead 447 = .ok (.iconst 0, 1) := by decide +kernel
theorem dL_isRead_448 : decode cL_isRead 448 = .ok (.istore 14, 2) := by decide +kernel
theorem dL_isRead_450 : decode cL_isRead 450 = .ok (.iload 14, 2) := by decide +kernel
theorem dL_isRead_452 : decode cL_isRead 452 = .ok (.iconst 4, 1) := by decide +kernel
theorem dL_isRead_453 : decode cL_isRead 453 = .ok (.if_icmp .ge 131, 3) := by decide +kernel
theorem dL_isRead_456 : decode cL_isRead 456 = .ok (.aload 7, 2) := by decide +kernel
theorem dL_isRead_458 : decode cL_isRead 458 = .ok (.iload 13, 2) := by decide +kernel
theorem dL_isRead_460 : decode cL_isRead 460 = .ok (.laload, 1) := by decide +kernel
theorem dL_isRead_461 : decode cL_isRead 461 = .ok (.iload 14, 2) := by decide +kernel
theorem dL_isRead_463 : decode cL_isRead 463 = .ok (.invokestatic 77, 3) := by decide +kernel
theorem dL_isRead_466 : decode cL_isRead 466 = .ok (.istore 15, 2) := by decide +kernel
theorem dL_isRead_468 : decode cL_isRead 468 = .ok (.aload_n 0, 1) := by decide +kernel
theorem dL_isRead_469 : decode cL_isRead 469 = .ok (.iload 13, 2) := by decide +kernel
theorem dL_isRead_471 : decode cL_isRead 471 = .ok (.iload 14, 2) := by decide +kernel
theorem dL_isRead_473 : decode cL_isRead 473 = .ok (.invokestatic 158, 3) := by decide +kernel
theorem dL_isRead_476 : decode cL_isRead 476 = .ok (.aload_n 2, 1) := by decide +kernel
theorem dL_isRead_477 : decode cL_isRead 477 = .ok (.iload 13, 2) := by decide +kernel
theorem dL_isRead_479 : decode cL_isRead 479 = .ok (.iload 14, 2) := by decide +kernel
theorem dL_isRead_481 : decode cL_isRead 481 = .ok (.invokestatic 73, 3) := by decide +kernel
theorem dL_isRead_484 : decode cL_isRead 484 = .ok (.if_icmp .ne 92, 3) := by decide +kernel
theorem dL_isRead_487 : decode cL_isRead 487 = .ok (.aload_n 0, 1) := by decide +kernel
theorem dL_isRead_488 : decode cL_isRead 488 = .ok (.iload 13, 2) := by decide +kernel
theorem dL_isRead_490 : decode cL_isRead 490 = .ok (.iload 14, 2) := by decide +kernel
theorem dL_isRead_492 : decode cL_isRead 492 = .ok (.invokevirtual 160, 3) := by decide +kernel
theorem dL_isRead_495 : decode cL_isRead 495 = .ok (.iload 15, 2) := by decide +kernel
theorem dL_isRead_497 : decode cL_isRead 497 = .ok (.ifCond .ne 7, 3) := by decide +kernel
theorem dL_isRead_500 : decode cL_isRead 500 = .ok (.iconst (-1), 1) := by decide +kernel
theorem dL_isRead_501 : decode cL_isRead 501 = .ok (.goto 5, 3) := by decide +kernel
theorem dL_isRead_504 : decode cL_isRead 504 = .ok (.iload 15, 2) := by decide +kernel
theorem dL_isRead_506 : decode cL_isRead 506 = .ok (.if_icmp .ne 70, 3) := by decide +kernel
theorem dL_isRead_509 : decode cL_isRead 509 = .ok (.aload_n 0, 1) := by decide +kernel
theorem dL_isRead_510 : decode cL_isRead 510 = .ok (.iload 13, 2) := by decide +kernel
theorem dL_isRead_512 : decode cL_isRead 512 = .ok (.iload 14, 2) := by decide +kernel
theorem dL_isRead_514 : decode cL_isRead 514 = .ok (.invokevirtual 163, 3) := by decide +kernel
theorem dL_isRead_517 : decode cL_isRead 517 = .ok (.aload_n 3, 1) := by decide +kernel
theorem dL_isRead_518 : decode cL_isRead 518 = .ok (.iload 13, 2) := by decide +kernel
theorem dL_isRead_520 : decode cL_isRead 520 = .ok (.laload, 1) := by decide +kernel
theorem dL_isRead_521 : decode cL_isRead 521 = .ok (.lconst 1, 1) := by decide +kernel
theorem dL_isRead_522 : decode cL_isRead 522 = .ok (.iload 13, 2) := by decide +kernel
theorem dL_isRead_524 : decode cL_isRead 524 = .ok (.lshl, 1) := by decide +kernel
theorem dL_isRead_525 : decode cL_isRead 525 = .ok (.lor, 1) := by decide +kernel
theorem dL_isRead_526 : decode cL_isRead 526 = .ok (.aload 4, 2) := by decide +kernel
theorem dL_isRead_528 : decode cL_isRead 528 = .ok (.iconst 4, 1) := by decide +kernel
theorem dL_isRead_529 : decode cL_isRead 529 = .ok (.iload 14, 2) := by decide +kernel
theorem dL_isRead_531 : decode cL_isRead 531 = .ok (.iadd, 1) := by decide +kernel
theorem dL_isRead_532 : decode cL_isRead 532 = .ok (.laload, 1) := by decide +kernel
theorem dL_isRead_533 : decode cL_isRead 533 = .ok (.land, 1) := by decide +kernel
theorem dL_isRead_534 : decode cL_isRead 534 = .ok (.invokestatic 65, 3) := by decide +kernel
theorem dL_isRead_537 : decode cL_isRead 537 = .ok (.if_icmp .ne 39, 3) := by decide +kernel
theorem dL_isRead_540 : decode cL_isRead 540 = .ok (.aload 5, 2) := by decide +kernel
theorem dL_isRead_542 : decode cL_isRead 542 = .ok (.iload 13, 2) := by decide +kernel
theorem dL_isRead_544 : decode cL_isRead 544 = .ok (.laload, 1) := by decide +kernel
theorem dL_isRead_545 : decode cL_isRead 545 = .ok (.iload 14, 2) := by decide +kernel
theorem dL_isRead_547 : decode cL_isRead 547 = .ok (.invokestatic 77, 3) := by decide +kernel
theorem dL_isRead_550 : decode cL_isRead 550 = .ok (.ifCond .le 28, 3) := by decide +kernel
theorem dL_isRead_553 : decode cL_isRead 553 = .ok (.aload_n 0, 1) := by decide +kernel
theorem dL_isRead_554 : decode cL_isRead 554 = .ok (.iload 14, 2) := by decide +kernel
theorem dL_isRead_556 : decode cL_isRead 556 = .ok (.aload 5, 2) := by decide +kernel
theorem dL_isRead_558 : decode cL_isRead 558 = .ok (.iload 13, 2) := by decide +kernel
theorem dL_isRead_560 : decode cL_isRead 560 = .ok (.laload, 1) := by decide +kernel
theorem dL_isRead_561 : decode cL_isRead 561 = .ok (.iload 14, 2) := by decide +kernel
theorem dL_isRead_563 : decode cL_isRead 563 = .ok (.invokestatic 77, 3) := by decide +kernel
theorem dL_isRead_566 : decode cL_isRead 566 = .ok (.iconst 1, 1) := by decide +kernel
theorem dL_isRead_567 : decode cL_isRead 567 = .ok (.isub, 1) := by decide +kernel
theorem dL_isRead_568 : decode cL_isRead 568 = .ok (.invokestatic 150, 3) := by decide +kernel
theorem dL_isRead_571 : decode cL_isRead 571 = .ok (.iload 13, 2) := by decide +kernel
theorem dL_isRead_573 : decode cL_isRead 573 = .ok (.if_icmp .eq 5, 3) := by decide +kernel
theorem dL_isRead_576 : decode cL_isRead 576 = .ok (.iconst 0, 1) := by decide +kernel
theorem dL_isRead_577 : decode cL_isRead 577 = .ok (.ireturn, 1) := by decide +kernel
theorem dL_isRead_578 : decode cL_isRead 578 = .ok (.iinc 14 1, 3) := by decide +kernel
theorem dL_isRead_581 : decode cL_isRead 581 = .ok (.goto (-131), 3) := by decide +kernel
theorem dL_isRead_584 : decode cL_isRead 584 = .ok (.aload 4, 2) := by decide +kernel
theorem dL_isRead_586 : decode cL_isRead 586 = .ok (.iconst 4, 1) := by decide +kernel
theorem dL_isRead_587 : decode cL_isRead 587 = .ok (.aload_n 0, 1) := by decide +kernel
theorem dL_isRead_588 : decode cL_isRead 588 = .ok (.iload 13, 2) := by decide +kernel
theorem dL_isRead_590 : decode cL_isRead 590 = .ok (.invokevirtual 166, 3) := by decide +kernel
theorem dL_isRead_593 : decode cL_isRead 593 = .ok (.iadd, 1) := by decide +kernel
theorem dL_isRead_594 : decode cL_isRead 594 = .ok (.laload, 1) := by decide +kernel
theorem dL_isRead_595 : decode cL_isRead 595 = .ok (.iload 13, 2) := by decide +kernel
theorem dL_isRead_597 : decode cL_isRead 597 = .ok (.lshr, 1) := by decide +kernel
theorem dL_isRead_598 : decode cL_isRead 598 = .ok (.lconst 1, 1) := by decide +kernel
theorem dL_isRead_599 : decode cL_isRead 599 = .ok (.land, 1) := by decide +kernel
theorem dL_isRead_600 : decode cL_isRead 600 = .ok (.lconst 0, 1) := by decide +kernel
theorem dL_isRead_601 : decode cL_isRead 601 = .ok (.lcmp, 1) := by decide +kernel
theorem dL_isRead_602 : decode cL_isRead 602 = .ok (.ifCond .eq 31, 3) := by decide +kernel
theorem dL_isRead_605 : decode cL_isRead 605 = .ok (.aload_n 0, 1) := by decide +kernel
theorem dL_isRead_606 : decode cL_isRead 606 = .ok (.iload 13, 2) := by decide +kernel
theorem dL_isRead_608 : decode cL_isRead 608 = .ok (.invokevirtual 169, 3) := by decide +kernel
theorem dL_isRead_611 : decode cL_isRead 611 = .ok (.aload 8, 2) := by decide +kernel
theorem dL_isRead_613 : decode cL_isRead 613 = .ok (.iload 13, 2) := by decide +kernel
theorem dL_isRead_615 : decode cL_isRead 615 = .ok (.iaload, 1) := by decide +kernel
theorem dL_isRead_616 : decode cL_isRead 616 = .ok (.if_icmp .ne 17, 3) := by decide +kernel
theorem dL_isRead_619 : decode cL_isRead 619 = .ok (.aload_n 0, 1) := by decide +kernel
theorem dL_isRead_620 : decode cL_isRead 620 = .ok (.iload 13, 2) := by decide +kernel
theorem dL_isRead_622 : decode cL_isRead 622 = .ok (.invokevirtual 172, 3) := by decide +kernel
theorem dL_isRead_625 : decode cL_isRead 625 = .ok (.aload 9, 2) := by decide +kernel
theorem dL_isRead_627 : decode cL_isRead 627 = .ok (.iload 13, 2) := by decide +kernel
theorem dL_isRead_629 : decode cL_isRead 629 = .ok (.iaload, 1) := by decide +kernel
theorem dL_isRead_630 : decode cL_isRead 630 = .ok (.if_icmp .eq 5, 3) := by decide +kernel
theorem dL_isRead_633 : decode cL_isRead 633 = .ok (.iconst 0, 1) := by decide +kernel
theorem dL_isRead_634 : decode cL_isRead 634 = .ok (.ireturn, 1) := by decide +kernel
theorem dL_isRead_635 : decode cL_isRead 635 = .ok (.aload 9, 2) := by decide +kernel
theorem dL_isRead_637 : decode cL_isRead 637 = .ok (.iload 13, 2) := by decide +kernel
theorem dL_isRead_639 : decode cL_isRead 639 = .ok (.iaload, 1) := by decide +kernel
theorem dL_isRead_640 : decode cL_isRead 640 = .ok (.ifCond .ge 6, 3) := by decide +kernel
theorem dL_isRead_643 : decode cL_isRead 643 = .ok (.goto 71, 3) := by decide +kernel
theorem dL_isRead_646 : decode cL_isRead 646 = .ok (.iconst 0, 1) := by decide +kernel
theorem dL_isRead_647 : decode cL_isRead 647 = .ok (.istore 14, 2) := by decide +kernel
theorem dL_isRead_649 : decode cL_isRead 649 = .ok (.iconst 0, 1) := by decide +kernel
theorem dL_isRead_650 : decode cL_isRead 650 = .ok (.istore 15, 2) := by decide +kernel
theorem dL_isRead_652 : decode cL_isRead 652 = .ok (.iload 15, 2) := by decide +kernel
theorem dL_isRead_654 : decode cL_isRead 654 = .ok (.aload 11, 2) := by decide +kernel
theorem dL_isRead_656 : decode cL_isRead 656 = .ok (.iconst 0, 1) := by decide +kernel
theorem dL_isRead_657 : decode cL_isRead 657 = .ok (.iaload, 1) := by decide +kernel
theorem dL_isRead_658 : decode cL_isRead 658 = .ok (.if_icmp .ge 40, 3) := by decide +kernel
theorem dL_isRead_661 : decode cL_isRead 661 = .ok (.iload 14, 2) := by decide +kernel
theorem dL_isRead_663 : decode cL_isRead 663 = .ok (.aload 9, 2) := by decide +kernel
theorem dL_isRead_665 : decode cL_isRead 665 = .ok (.iload 15, 2) := by decide +kernel
theorem dL_isRead_667 : decode cL_isRead 667 = .ok (.iaload, 1) := by decide +kernel
theorem dL_isRead_668 : decode cL_isRead 668 = .ok (.ifCond .lt 20, 3) := by decide +kernel
theorem dL_isRead_671 : decode cL_isRead 671 = .ok (.aload 9, 2) := by decide +kernel
theorem dL_isRead_673 : decode cL_isRead 673 = .ok (.iload 15, 2) := by decide +kernel
theorem dL_isRead_675 : decode cL_isRead 675 = .ok (.iaload, 1) := by decide +kernel
theorem dL_isRead_676 : decode cL_isRead 676 = .ok (.aload 9, 2) := by decide +kernel
theorem dL_isRead_678 : decode cL_isRead 678 = .ok (.iload 13, 2) := by decide +kernel
theorem dL_isRead_680 : decode cL_isRead 680 = .ok (.iaload, 1) := by decide +kernel
theorem dL_isRead_681 : decode cL_isRead 681 = .ok (.if_icmp .ge 7, 3) := by decide +kernel
theorem dL_isRead_684 : decode cL_isRead 684 = .ok (.iconst 1, 1) := by decide +kernel
theorem dL_isRead_685 : decode cL_isRead 685 = .ok (.goto 4, 3) := by decide +kernel
theorem dL_isRead_688 : decode cL_isRead 688 = .ok (.iconst 0, 1) := by decide +kernel
theorem dL_isRead_689 : decode cL_isRead 689 = .ok (.iadd, 1) := by decide +kernel
theorem dL_isRead_690 : decode cL_isRead 690 = .ok (.istore 14, 2) := by decide +kernel
theorem dL_isRead_692 : decode cL_isRead 692 = .ok (.iinc 15 1, 3) := by decide +kernel
theorem dL_isRead_695 : decode cL_isRead 695 = .ok (.goto (-43), 3) := by decide +kernel
theorem dL_isRead_698 : decode cL_isRead 698 = .ok (.aload_n 0, 1) := by decide +kernel
theorem dL_isRead_699 : decode cL_isRead 699 = .ok (.iload 14, 2) := by decide +kernel
theorem dL_isRead_701 : decode cL_isRead 701 = .ok (.invokestatic 175, 3) := by decide +kernel
theorem dL_isRead_704 : decode cL_isRead 704 = .ok (.iload 13, 2) := by decide +kernel
theorem dL_isRead_706 : decode cL_isRead 706 = .ok (.if_icmp .eq 5, 3) := by decide +kernel
theorem dL_isRead_709 : decode cL_isRead 709 = .ok (.iconst 0, 1) := by decide +kernel
theorem dL_isRead_710 : decode cL_isRead 710 = .ok (.ireturn, 1) := by decide +kernel
theorem dL_isRead_711 : decode cL_isRead 711 = .ok (.iinc 12 1, 3) := by decide +kernel
theorem dL_isRead_714 : decode cL_isRead 714 = .ok (.iinc 13 1, 3) := by decide +kernel
theorem dL_isRead_717 : decode cL_isRead 717 = .ok (.goto (-279), 3) := by decide +kernel
theorem dL_isRead_720 : decode cL_isRead 720 = .ok (.aload_n 0, 1) := by decide +kernel
theorem dL_isRead_721 : decode cL_isRead 721 = .ok (.invokevirtual 177, 3) := by decide +kernel
theorem dL_isRead_724 : decode cL_isRead 724 = .ok (.aload 11, 2) := by decide +kernel
theorem dL_isRead_726 : decode cL_isRead 726 = .ok (.iconst 0, 1) := by decide +kernel
theorem dL_isRead_727 : decode cL_isRead 727 = .ok (.iaload, 1) := by decide +kernel
theorem dL_isRead_728 : decode cL_isRead 728 = .ok (.if_icmp .ne 82, 3) := by decide +kernel
theorem dL_isRead_731 : decode cL_isRead 731 = .ok (.aload_n 0, 1) := by decide +kernel
theorem dL_isRead_732 : decode cL_isRead 732 = .ok (.invokevirtual 180, 3) := by decide +kernel
theorem dL_isRead_735 : decode cL_isRead 735 = .ok (.aload 11, 2) := by decide +kernel
theorem dL_isRead_737 : decode cL_isRead 737 = .ok (.iconst 3, 1) := by decide +kernel
theorem dL_isRead_738 : decode cL_isRead 738 = .ok (.iaload, 1) := by decide +kernel
theorem dL_isRead_739 : decode cL_isRead 739 = .ok (.if_icmp .ne 71, 3) := by decide +kernel
theorem dL_isRead_742 : decode cL_isRead 742 = .ok (.aload_n 0, 1) := by decide +kernel
theorem dL_isRead_743 : decode cL_isRead 743 = .ok (.invokevirtual 183, 3) := by decide +kernel
theorem dL_isRead_746 : decode cL_isRead 746 = .ok (.aload 11, 2) := by decide +kernel
theorem dL_isRead_748 : decode cL_isRead 748 = .ok (.iconst 5, 1) := by decide +kernel
theorem dL_isRead_749 : decode cL_isRead 749 = .ok (.iaload, 1) := by decide +kernel
theorem dL_isRead_750 : decode cL_isRead 750 = .ok (.if_icmp .ne 60, 3) := by decide +kernel
theorem dL_isRead_753 : decode cL_isRead 753 = .ok (.aload_n 0, 1) := by decide +kernel
theorem dL_isRead_754 : decode cL_isRead 754 = .ok (.invokevirtual 186, 3) := by decide +kernel
theorem dL_isRead_757 : decode cL_isRead 757 = .ok (.aload 11, 2) := by decide +kernel
theorem dL_isRead_759 : decode cL_isRead 759 = .ok (.iconst 4, 1) := by decide +kernel
theorem dL_isRead_760 : decode cL_isRead 760 = .ok (.iaload, 1) := by decide +kernel
theorem dL_isRead_761 : decode cL_isRead 761 = .ok (.if_icmp .ne 49, 3) := by decide +kernel
theorem dL_isRead_764 : decode cL_isRead 764 = .ok (.aload_n 0, 1) := by decide +kernel
theorem dL_isRead_765 : decode cL_isRead 765 = .ok (.iload 12, 2) := by decide +kernel
theorem dL_isRead_767 : decode cL_isRead 767 = .ok (.invokestatic 175, 3) := by decide +kernel
theorem dL_isRead_770 : decode cL_isRead 770 = .ok (.bipush (-71), 2) := by decide +kernel
theorem dL_isRead_772 : decode cL_isRead 772 = .ok (.if_icmp .ne 38, 3) := by decide +kernel
theorem dL_isRead_775 : decode cL_isRead 775 = .ok (.aload_n 0, 1) := by decide +kernel
theorem dL_isRead_776 : decode cL_isRead 776 = .ok (.iconst (-1), 1) := by decide +kernel
theorem dL_isRead_777 : decode cL_isRead 777 = .ok (.invokestatic 175, 3) := by decide +kernel
theorem dL_isRead_780 : decode cL_isRead 780 = .ok (.bipush (-71), 2) := by decide +kernel
theorem dL_isRead_782 : decode cL_isRead 782 = .ok (.if_icmp .ne 28, 3) := by decide +kernel
theorem dL_isRead_785 : decode cL_isRead 785 = .ok (.aload_n 0, 1) := by decide +kernel
theorem dL_isRead_786 : decode cL_isRead 786 = .ok (.aload 11, 2) := by decide +kernel
theorem dL_isRead_788 : decode cL_isRead 788 = .ok (.iconst 0, 1) := by decide +kernel
theorem dL_isRead_789 : decode cL_isRead 789 = .ok (.iaload, 1) := by decide +kernel
theorem dL_isRead_790 : decode cL_isRead 790 = .ok (.iconst 0, 1) := by decide +kernel
theorem dL_isRead_791 : decode cL_isRead 791 = .ok (.invokestatic 158, 3) := by decide +kernel
theorem dL_isRead_794 : decode cL_isRead 794 = .ok (.bipush (-71), 2) := by decide +kernel
theorem dL_isRead_796 : decode cL_isRead 796 = .ok (.if_icmp .ne 14, 3) := by decide +kernel
theorem dL_isRead_799 : decode cL_isRead 799 = .ok (.aload_n 0, 1) := by decide +kernel
theorem dL_isRead_800 : decode cL_isRead 800 = .ok (.iconst 0, 1) := by decide +kernel
theorem dL_isRead_801 : decode cL_isRead 801 = .ok (.iconst 4, 1) := by decide +kernel
theorem dL_isRead_802 : decode cL_isRead 802 = .ok (.invokestatic 158, 3) := by decide +kernel
theorem dL_isRead_805 : decode cL_isRead 805 = .ok (.bipush (-71), 2) := by decide +kernel
theorem dL_isRead_807 : decode cL_isRead 807 = .ok (.if_icmp .eq 5, 3) := by decide +kernel
theorem dL_isRead_810 : decode cL_isRead 810 = .ok (.iconst 0, 1) := by decide +kernel
theorem dL_isRead_811 : decode cL_isRead 811 = .ok (.ireturn, 1) := by decide +kernel
theorem dL_isRead_812 : decode cL_isRead 812 = .ok (.aload 11, 2) := by decide +kernel
theorem dL_isRead_814 : decode cL_isRead 814 = .ok (.iconst 0, 1) := by decide +kernel
theorem dL_isRead_815 : decode cL_isRead 815 = .ok (.iaload, 1) := by decide +kernel
theorem dL_isRead_816 : decode cL_isRead 816 = .ok (.ifCond .ne 5, 3) := by decide +kernel
theorem dL_isRead_819 : decode cL_isRead 819 = .ok (.iconst 1, 1) := by decide +kernel
theorem dL_isRead_820 : decode cL_isRead 820 = .ok (.ireturn, 1) := by decide +kernel
theorem dL_isRead_821 : decode cL_isRead 821 = .ok (.iload_n 1, 1) := by decide +kernel
theorem dL_isRead_822 : decode cL_isRead 822 = .ok (.aload 11, 2) := by decide +kernel
theorem dL_isRead_824 : decode cL_isRead 824 = .ok (.iconst 0, 1) := by decide +kernel
theorem dL_isRead_825 : decode cL_isRead 825 = .ok (.iaload, 1) := by decide +kernel
theorem dL_isRead_826 : decode cL_isRead 826 = .ok (.invokestatic 105, 3) := by decide +kernel
theorem dL_isRead_829 : decode cL_isRead 829 = .ok (.istore 13, 2) := by decide +kernel
theorem dL_isRead_831 : decode cL_isRead 831 = .ok (.iload_n 1, 1) := by decide +kernel
theorem dL_isRead_832 : decode cL_isRead 832 = .ok (.bipush 7, 2) := by decide +kernel
theorem dL_isRead_834 : decode cL_isRead 834 = .ok (.ishr, 1) := by decide +kernel
theorem dL_isRead_835 : decode cL_isRead 835 = .ok (.aload 11, 2) := by decide +kernel
theorem dL_isRead_837 : decode cL_isRead 837 = .ok (.iconst 0, 1) := by decide +kernel
theorem dL_isRead_838 : decode cL_isRead 838 = .ok (.iaload, 1) := by decide +kernel
theorem dL_isRead_839 : decode cL_isRead 839 = .ok (.invokestatic 105, 3) := by decide +kernel
theorem dL_isRead_842 : decode cL_isRead 842 = .ok (.istore 14, 2) := by decide +kernel
theorem dL_isRead_844 : decode cL_isRead 844 = .ok (.aload_n 3, 1) := by decide +kernel
theorem dL_isRead_845 : decode cL_isRead 845 = .ok (.iload 14, 2) := by decide +kernel
theorem dL_isRead_847 : decode cL_isRead 847 = .ok (.laload, 1) := by decide +kernel
theorem dL_isRead_848 : decode cL_isRead 848 = .ok (.iload 13, 2) := by decide +kernel
theorem dL_isRead_850 : decode cL_isRead 850 = .ok (.lshr, 1) := by decide +kernel
theorem dL_isRead_851 : decode cL_isRead 851 = .ok (.lconst 1, 1) := by decide +kernel
theorem dL_isRead_852 : decode cL_isRead 852 = .ok (.land, 1) := by decide +kernel
theorem dL_isRead_853 : decode cL_isRead 853 = .ok (.lconst 1, 1) := by decide +kernel
theorem dL_isRead_854 : decode cL_isRead 854 = .ok (.lcmp, 1) := by decide +kernel
theorem dL_isRead_855 : decode cL_isRead 855 = .ok (.ifCond .ne 7, 3) := by decide +kernel
theorem dL_isRead_858 : decode cL_isRead 858 = .ok (.iconst 1, 1) := by decide +kernel
theorem dL_isRead_859 : decode cL_isRead 859 = .ok (.goto 4, 3) := by decide +kernel
theorem dL_isRead_862 : decode cL_isRead 862 = .ok (.iconst 0, 1) := by decide +kernel
theorem dL_isRead_863 : decode cL_isRead 863 = .ok (.istore 15, 2) := by decide +kernel
theorem dL_isRead_865 : decode cL_isRead 865 = .ok (.aload_n 3, 1) := by decide +kernel
theorem dL_isRead_866 : decode cL_isRead 866 = .ok (.iload 13, 2) := by decide +kernel
theorem dL_isRead_868 : decode cL_isRead 868 = .ok (.laload, 1) := by decide +kernel
theorem dL_isRead_869 : decode cL_isRead 869 = .ok (.iload 14, 2) := by decide +kernel
theorem dL_isRead_871 : decode cL_isRead 871 = .ok (.lshr, 1) := by decide +kernel
theorem dL_isRead_872 : decode cL_isRead 872 = .ok (.lconst 1, 1) := by decide +kernel
theorem dL_isRead_873 : decode cL_isRead 873 = .ok (.land, 1) := by decide +kernel
theorem dL_isRead_874 : decode cL_isRead 874 = .ok (.lconst 1, 1) := by decide +kernel
theorem dL_isRead_875 : decode cL_isRead 875 = .ok (.lcmp, 1) := by decide +kernel
theorem dL_isRead_876 : decode cL_isRead 876 = .ok (.ifCond .ne 7, 3) := by decide +kernel
theorem dL_isRead_879 : decode cL_isRead 879 = .ok (.iconst 1, 1) := by decide +kernel
theorem dL_isRead_880 : decode cL_isRead 880 = .ok (.goto 4, 3) := by decide +kernel
theorem dL_isRead_883 : decode cL_isRead 883 = .ok (.iconst 0, 1) := by decide +kernel
theorem dL_isRead_884 : decode cL_isRead 884 = .ok (.istore 16, 2) := by decide +kernel
theorem dL_isRead_886 : decode cL_isRead 886 = .ok (.iconst 0, 1) := by decide +kernel
theorem dL_isRead_887 : decode cL_isRead 887 = .ok (.istore 17, 2) := by decide +kernel
theorem dL_isRead_889 : decode cL_isRead 889 = .ok (.iload 17, 2) := by decide +kernel
theorem dL_isRead_891 : decode cL_isRead 891 = .ok (.iconst 4, 1) := by decide +kernel
theorem dL_isRead_892 : decode cL_isRead 892 = .ok (.if_icmp .ge 99, 3) := by decide +kernel
theorem dL_isRead_895 : decode cL_isRead 895 = .ok (.aload_n 3, 1) := by decide +kernel
theorem dL_isRead_896 : decode cL_isRead 896 = .ok (.iload 13, 2) := by decide +kernel
theorem dL_isRead_898 : decode cL_isRead 898 = .ok (.laload, 1) := by decide +kernel
theorem dL_isRead_899 : decode cL_isRead 899 = .ok (.aload 4, 2) := by decide +kernel
theorem dL_isRead_901 : decode cL_isRead 901 = .ok (.iload 17, 2) := by decide +kernel
theorem dL_isRead_903 : decode cL_isRead 903 = .ok (.laload, 1) := by decide +kernel
theorem dL_isRead_904 : decode cL_isRead 904 = .ok (.ldc2_w 57, 3) := by decide +kernel
theorem dL_isRead_907 : decode cL_isRead 907 = .ok (.lxor, 1) := by decide +kernel
theorem dL_isRead_908 : decode cL_isRead 908 = .ok (.land, 1) := by decide +kernel
theorem dL_isRead_909 : decode cL_isRead 909 = .ok (.lstore 18, 2) := by decide +kernel
theorem dL_isRead_911 : decode cL_isRead 911 = .ok (.iconst (-1), 1) := by decide +kernel
theorem dL_isRead_912 : decode cL_isRead 912 = .ok (.istore 20, 2) := by decide +kernel
theorem dL_isRead_914 : decode cL_isRead 914 = .ok (.aload 11, 2) := by decide +kernel
theorem dL_isRead_916 : decode cL_isRead 916 = .ok (.iconst 0, 1) := by decide +kernel
theorem dL_isRead_917 : decode cL_isRead 917 = .ok (.iaload, 1) := by decide +kernel
theorem dL_isRead_918 : decode cL_isRead 918 = .ok (.iconst 1, 1) := by decide +kernel
theorem dL_isRead_919 : decode cL_isRead 919 = .ok (.isub, 1) := by decide +kernel
theorem dL_isRead_920 : decode cL_isRead 920 = .ok (.istore 21, 2) := by decide +kernel
theorem dL_isRead_922 : decode cL_isRead 922 = .ok (.iload 21, 2) := by decide +kernel
theorem dL_isRead_924 : decode cL_isRead 924 = .ok (.ifCond .lt 30, 3) := by decide +kernel
theorem dL_isRead_927 : decode cL_isRead 927 = .ok (.lload 18, 2) := by decide +kernel
theorem dL_isRead_929 : decode cL_isRead 929 = .ok (.iload 21, 2) := by decide +kernel
theorem dL_isRead_931 : decode cL_isRead 931 = .ok (.lshr, 1) := by decide +kernel
theorem dL_isRead_932 : decode cL_isRead 932 = .ok (.lconst 1, 1) := by decide +kernel
theorem dL_isRead_933 : decode cL_isRead 933 = .ok (.land, 1) := by decide +kernel
theorem dL_isRead_934 : decode cL_isRead 934 = .ok (.lconst 1, 1) := by decide +kernel
theorem dL_isRead_935 : decode cL_isRead 935 = .ok (.lcmp, 1) := by decide +kernel
theorem dL_isRead_936 : decode cL_isRead 936 = .ok (.ifCond .ne 8, 3) := by decide +kernel
theorem dL_isRead_939 : decode cL_isRead 939 = .ok (.iload 21, 2) := by decide +kernel
theorem dL_isRead_941 : decode cL_isRead 941 = .ok (.goto 5, 3) := by decide +kernel
theorem dL_isRead_944 : decode cL_isRead 944 = .ok (.iload 20, 2) := by decide +kernel
theorem dL_isRead_946 : decode cL_isRead 946 = .ok (.istore 20, 2) := by decide +kernel
theorem dL_isRead_948 : decode cL_isRead 948 = .ok (.iinc 21 (-1), 3) := by decide +kernel
theorem dL_isRead_951 : decode cL_isRead 951 = .ok (.goto (-29), 3) := by decide +kernel
theorem dL_isRead_954 : decode cL_isRead 954 = .ok (.aload_n 0, 1) := by decide +kernel
theorem dL_isRead_955 : decode cL_isRead 955 = .ok (.iload 13, 2) := by decide +kernel
theorem dL_isRead_957 : decode cL_isRead 957 = .ok (.iload 17, 2) := by decide +kernel
theorem dL_isRead_959 : decode cL_isRead 959 = .ok (.invokevirtual 189, 3) := by decide +kernel
theorem dL_isRead_962 : decode cL_isRead 962 = .ok (.lload 18, 2) := by decide +kernel
theorem dL_isRead_964 : decode cL_isRead 964 = .ok (.invokestatic 65, 3) := by decide +kernel
theorem dL_isRead_967 : decode cL_isRead 967 = .ok (.if_icmp .ne 16, 3) := by decide +kernel
theorem dL_isRead_970 : decode cL_isRead 970 = .ok (.aload_n 0, 1) := by decide +kernel
theorem dL_isRead_971 : decode cL_isRead 971 = .ok (.iload 13, 2) := by decide +kernel
theorem dL_isRead_973 : decode cL_isRead 973 = .ok (.iload 17, 2) := by decide +kernel
theorem dL_isRead_975 : decode cL_isRead 975 = .ok (.invokevirtual 192, 3) := by decide +kernel
theorem dL_isRead_978 : decode cL_isRead 978 = .ok (.iload 20, 2) := by decide +kernel
theorem dL_isRead_980 : decode cL_isRead 980 = .ok (.if_icmp .eq 5, 3) := by decide +kernel
theorem dL_isRead_983 : decode cL_isRead 983 = .ok (.iconst 0, 1) := by decide +kernel
theorem dL_isRead_984 : decode cL_isRead 984 = .ok (.ireturn, 1) := by decide +kernel
theorem dL_isRead_985 : decode cL_isRead 985 = .ok (.iinc 17 1, 3) := by decide +kernel
theorem dL_isRead_988 : decode cL_isRead 988 = .ok (.goto (-99), 3) := by decide +kernel
theorem dL_isRead_991 : decode cL_isRead 991 = .ok (.aload_n 0, 1) := by decide +kernel
theorem dL_isRead_992 : decode cL_isRead 992 = .ok (.iload 13, 2) := by decide +kernel
theorem dL_isRead_994 : decode cL_isRead 994 = .ok (.iload 14, 2) := by decide +kernel
theorem dL_isRead_996 : decode cL_isRead 996 = .ok (.invokevirtual 195, 3) := by decide +kernel
theorem dL_isRead_999 : decode cL_isRead 999 = .ok (.iload 15, 2) := by decide +kernel
theorem dL_isRead_1001 : decode cL_isRead 1001 = .ok (.if_icmp .ne 66, 3) := by decide +kernel
theorem dL_isRead_1004 : decode cL_isRead 1004 = .ok (.aload_n 0, 1) := by decide +kernel
theorem dL_isRead_1005 : decode cL_isRead 1005 = .ok (.iload 13, 2) := by decide +kernel
theorem dL_isRead_1007 : decode cL_isRead 1007 = .ok (.iload 14, 2) := by decide +kernel
theorem dL_isRead_1009 : decode cL_isRead 1009 = .ok (.invokevirtual 198, 3) := by decide +kernel
theorem dL_isRead_1012 : decode cL_isRead 1012 = .ok (.iload 15, 2) := by decide +kernel
theorem dL_isRead_1014 : decode cL_isRead 1014 = .ok (.if_icmp .ne 53, 3) := by decide +kernel
theorem dL_isRead_1017 : decode cL_isRead 1017 = .ok (.aload_n 0, 1) := by decide +kernel
theorem dL_isRead_1018 : decode cL_isRead 1018 = .ok (.iload 14, 2) := by decide +kernel
theorem dL_isRead_1020 : decode cL_isRead 1020 = .ok (.iload 13, 2) := by decide +kernel
theorem dL_isRead_1022 : decode cL_isRead 1022 = .ok (.invokevirtual 198, 3) := by decide +kernel
theorem dL_isRead_1025 : decode cL_isRead 1025 = .ok (.iload 16, 2) := by decide +kernel
theorem dL_isRead_1027 : decode cL_isRead 1027 = .ok (.if_icmp .ne 40, 3) := by decide +kernel
theorem dL_isRead_1030 : decode cL_isRead 1030 = .ok (.aload_n 0, 1) := by decide +kernel
theorem dL_isRead_1031 : decode cL_isRead 1031 = .ok (.iload 13, 2) := by decide +kernel
theorem dL_isRead_1033 : decode cL_isRead 1033 = .ok (.iload 14, 2) := by decide +kernel
theorem dL_isRead_1035 : decode cL_isRead 1035 = .ok (.invokevirtual 201, 3) := by decide +kernel
theorem dL_isRead_1038 : decode cL_isRead 1038 = .ok (.iload 13, 2) := by decide +kernel
theorem dL_isRead_1040 : decode cL_isRead 1040 = .ok (.iload 14, 2) := by decide +kernel
theorem dL_isRead_1042 : decode cL_isRead 1042 = .ok (.if_icmp .eq 17, 3) := by decide +kernel
theorem dL_isRead_1045 : decode cL_isRead 1045 = .ok (.iload 15, 2) := by decide +kernel
theorem dL_isRead_1047 : decode cL_isRead 1047 = .ok (.ifCond .ne 12, 3) := by decide +kernel
theorem dL_isRead_1050 : decode cL_isRead 1050 = .ok (.iload 16, 2) := by decide +kernel
theorem dL_isRead_1052 : decode cL_isRead 1052 = .ok (.ifCond .ne 7, 3) := by decide +kernel
theorem dL_isRead_1055 : decode cL_isRead 1055 = .ok (.iconst 1, 1) := by decide +kernel
theorem dL_isRead_1056 : decode cL_isRead 1056 = .ok (.goto 4, 3) := by decide +kernel
theorem dL_isRead_1059 : decode cL_isRead 1059 = .ok (.iconst 0, 1) := by decide +kernel
theorem dL_isRead_1060 : decode cL_isRead 1060 = .ok (.if_icmp .ne 7, 3) := by decide +kernel
theorem dL_isRead_1063 : decode cL_isRead 1063 = .ok (.iconst 1, 1) := by decide +kernel
theorem dL_isRead_1064 : decode cL_isRead 1064 = .ok (.goto 4, 3) := by decide +kernel
theorem dL_isRead_1067 : decode cL_isRead 1067 = .ok (.iconst 0, 1) := by decide +kernel
theorem dL_isRead_1068 : decode cL_isRead 1068 = .ok (.ireturn, 1) := by decide +kernel
theorem dL_law_0 : decode cL_law 0 = .ok (.new 9, 3) := by decide +kernel
theorem dL_law_3 : decode cL_law 3 = .ok (.dup, 1) := by decide +kernel
theorem dL_law_4 : decode cL_law 4 = .ok (.invokespecial 204, 3) := by decide +kernel
theorem dL_law_7 : decode cL_law 7 = .ok (.astore_n 1, 1) := by decide +kernel
theorem dL_law_8 : decode cL_law 8 = .ok (.bipush 48, 2) := by decide +kernel
theorem dL_law_10 : decode cL_law 10 = .ok (.newarray .int, 2) := by decide +kernel
theorem dL_law_12 : decode cL_law 12 = .ok (.astore_n 2, 1) := by decide +kernel
theorem dL_law_13 : decode cL_law 13 = .ok (.bipush 48, 2) := by decide +kernel
theorem dL_law_15 : decode cL_law 15 = .ok (.newarray .long, 2) := by decide +kernel
theorem dL_law_17 : decode cL_law 17 = .ok (.astore_n 3, 1) := by decide +kernel
theorem dL_law_18 : decode cL_law 18 = .ok (.bipush 8, 2) := by decide +kernel
theorem dL_law_20 : decode cL_law 20 = .ok (.newarray .long, 2) := by decide +kernel
theorem dL_law_22 : decode cL_law 22 = .ok (.astore 4, 2) := by decide +kernel
theorem dL_law_24 : decode cL_law 24 = .ok (.bipush 48, 2) := by decide +kernel
theorem dL_law_26 : decode cL_law 26 = .ok (.newarray .long, 2) := by decide +kernel
theorem dL_law_28 : decode cL_law 28 = .ok (.astore 5, 2) := by decide +kernel
theorem dL_law_30 : decode cL_law 30 = .ok (.bipush 48, 2) := by decide +kernel
theorem dL_law_32 : decode cL_law 32 = .ok (.newarray .long, 2) := by decide +kernel
theorem dL_law_34 : decode cL_law 34 = .ok (.astore 6, 2) := by decide +kernel
theorem dL_law_36 : decode cL_law 36 = .ok (.bipush 48, 2) := by decide +kernel
theorem dL_law_38 : decode cL_law 38 = .ok (.newarray .long, 2) := by decide +kernel
theorem dL_law_40 : decode cL_law 40 = .ok (.astore 7, 2) := by decide +kernel
theorem dL_law_42 : decode cL_law 42 = .ok (.bipush 48, 2) := by decide +kernel
theorem dL_law_44 : decode cL_law 44 = .ok (.newarray .int, 2) := by decide +kernel
theorem dL_law_46 : decode cL_law 46 = .ok (.astore 8, 2) := by decide +kernel
theorem dL_law_48 : decode cL_law 48 = .ok (.bipush 48, 2) := by decide +kernel
theorem dL_law_50 : decode cL_law 50 = .ok (.newarray .int, 2) := by decide +kernel
theorem dL_law_52 : decode cL_law 52 = .ok (.astore 9, 2) := by decide +kernel
theorem dL_law_54 : decode cL_law 54 = .ok (.bipush 12, 2) := by decide +kernel
theorem dL_law_56 : decode cL_law 56 = .ok (.newarray .int, 2) := by decide +kernel
theorem dL_law_58 : decode cL_law 58 = .ok (.astore 10, 2) := by decide +kernel
theorem dL_law_60 : decode cL_law 60 = .ok (.bipush 8, 2) := by decide +kernel
theorem dL_law_62 : decode cL_law 62 = .ok (.newarray .int, 2) := by decide +kernel
theorem dL_law_64 : decode cL_law 64 = .ok (.astore 11, 2) := by decide +kernel
theorem dL_law_66 : decode cL_law 66 = .ok (.aload_n 1, 1) := by decide +kernel
theorem dL_law_67 : decode cL_law 67 = .ok (.iconst 0, 1) := by decide +kernel
theorem dL_law_68 : decode cL_law 68 = .ok (.aload_n 2, 1) := by decide +kernel
theorem dL_law_69 : decode cL_law 69 = .ok (.aload_n 3, 1) := by decide +kernel
theorem dL_law_70 : decode cL_law 70 = .ok (.aload 4, 2) := by decide +kernel
theorem dL_law_72 : decode cL_law 72 = .ok (.aload 5, 2) := by decide +kernel
theorem dL_law_74 : decode cL_law 74 = .ok (.aload 6, 2) := by decide +kernel
theorem dL_law_76 : decode cL_law 76 = .ok (.aload 7, 2) := by decide +kernel
theorem dL_law_78 : decode cL_law 78 = .ok (.aload 8, 2) := by decide +kernel
theorem dL_law_80 : decode cL_law 80 = .ok (.aload 9, 2) := by decide +kernel
theorem dL_law_82 : decode cL_law 82 = .ok (.aload 10, 2) := by decide +kernel
theorem dL_law_84 : decode cL_law 84 = .ok (.aload 11, 2) := by decide +kernel
theorem dL_law_86 : decode cL_law 86 = .ok (.invokestatic 205, 3) := by decide +kernel
theorem dL_law_89 : decode cL_law 89 = .ok (.ifCond .ne 5, 3) := by decide +kernel
theorem dL_law_92 : decode cL_law 92 = .ok (.iconst 0, 1) := by decide +kernel
theorem dL_law_93 : decode cL_law 93 = .ok (.ireturn, 1) := by decide +kernel
theorem dL_law_94 : decode cL_law 94 = .ok (.iconst 0, 1) := by decide +kernel
theorem dL_law_95 : decode cL_law 95 = .ok (.istore 12, 2) := by decide +kernel
theorem dL_law_97 : decode cL_law 97 = .ok (.iload 12, 2) := by decide +kernel
theorem dL_law_99 : decode cL_law 99 = .ok (.sipush 160, 3) := by decide +kernel
theorem dL_law_102 : decode cL_law 102 = .ok (.if_icmp .ge 105, 3) := by decide +kernel
theorem dL_law_105 : decode cL_law 105 = .ok (.aload_n 0, 1) := by decide +kernel
theorem dL_law_106 : decode cL_law 106 = .ok (.iconst 2, 1) := by decide +kernel
theorem dL_law_107 : decode cL_law 107 = .ok (.iload 12, 2) := by decide +kernel
theorem dL_law_109 : decode cL_law 109 = .ok (.imul, 1) := by decide +kernel
theorem dL_law_110 : decode cL_law 110 = .ok (.invokestatic 209, 3) := by decide +kernel
theorem dL_law_113 : decode cL_law 113 = .ok (.istore 13, 2) := by decide +kernel
theorem dL_law_115 : decode cL_law 115 = .ok (.aload_n 0, 1) := by decide +kernel
theorem dL_law_116 : decode cL_law 116 = .ok (.iconst 2, 1) := by decide +kernel
theorem dL_law_117 : decode cL_law 117 = .ok (.iload 12, 2) := by decide +kernel
theorem dL_law_119 : decode cL_law 119 = .ok (.imul, 1) := by decide +kernel
theorem dL_law_120 : decode cL_law 120 = .ok (.iconst 1, 1) := by decide +kernel
theorem dL_law_121 : decode cL_law 121 = .ok (.iadd, 1) := by decide +kernel
theorem dL_law_122 : decode cL_law 122 = .ok (.invokestatic 209, 3) := by decide +kernel
theorem dL_law_125 : decode cL_law 125 = .ok (.istore 14, 2) := by decide +kernel
theorem dL_law_127 : decode cL_law 127 = .ok (.aload_n 1, 1) := by decide +kernel
theorem dL_law_128 : decode cL_law 128 = .ok (.iload 12, 2) := by decide +kernel
theorem dL_law_130 : decode cL_law 130 = .ok (.iconst 4, 1) := by decide +kernel
theorem dL_law_131 : decode cL_law 131 = .ok (.if_icmp .ge 7, 3) := by decide +kernel
theorem dL_law_134 : decode cL_law 134 = .ok (.iconst 0, 1) := by decide +kernel
theorem dL_law_135 : decode cL_law 135 = .ok (.goto 5, 3) := by decide +kernel
theorem dL_law_138 : decode cL_law 138 = .ok (.iload 13, 2) := by decide +kernel
theorem dL_law_140 : decode cL_law 140 = .ok (.iload 14, 2) := by decide +kernel
theorem dL_law_142 : decode cL_law 142 = .ok (.aload_n 2, 1) := by decide +kernel
theorem dL_law_143 : decode cL_law 143 = .ok (.aload_n 3, 1) := by decide +kernel
theorem dL_law_144 : decode cL_law 144 = .ok (.aload 4, 2) := by decide +kernel
theorem dL_law_146 : decode cL_law 146 = .ok (.aload 5, 2) := by decide +kernel
theorem dL_law_148 : decode cL_law 148 = .ok (.aload 6, 2) := by decide +kernel
theorem dL_law_150 : decode cL_law 150 = .ok (.aload 7, 2) := by decide +kernel
theorem dL_law_152 : decode cL_law 152 = .ok (.aload 8, 2) := by decide +kernel
theorem dL_law_154 : decode cL_law 154 = .ok (.aload 9, 2) := by decide +kernel
theorem dL_law_156 : decode cL_law 156 = .ok (.aload 10, 2) := by decide +kernel
theorem dL_law_158 : decode cL_law 158 = .ok (.aload 11, 2) := by decide +kernel
theorem dL_law_160 : decode cL_law 160 = .ok (.invokestatic 213, 3) := by decide +kernel
theorem dL_law_163 : decode cL_law 163 = .ok (.ifCond .eq 36, 3) := by decide +kernel
theorem dL_law_166 : decode cL_law 166 = .ok (.aload_n 1, 1) := by decide +kernel
theorem dL_law_167 : decode cL_law 167 = .ok (.iload 13, 2) := by decide +kernel
theorem dL_law_169 : decode cL_law 169 = .ok (.bipush 6, 2) := by decide +kernel
theorem dL_law_171 : decode cL_law 171 = .ok (.ishr, 1) := by decide +kernel
theorem dL_law_172 : decode cL_law 172 = .ok (.iload 14, 2) := by decide +kernel
theorem dL_law_174 : decode cL_law 174 = .ok (.ixor, 1) := by decide +kernel
theorem dL_law_175 : decode cL_law 175 = .ok (.aload_n 2, 1) := by decide +kernel
theorem dL_law_176 : decode cL_law 176 = .ok (.aload_n 3, 1) := by decide +kernel
theorem dL_law_177 : decode cL_law 177 = .ok (.aload 4, 2) := by decide +kernel
theorem dL_law_179 : decode cL_law 179 = .ok (.aload 5, 2) := by decide +kernel
theorem dL_law_181 : decode cL_law 181 = .ok (.aload 6, 2) := by decide +kernel
theorem dL_law_183 : decode cL_law 183 = .ok (.aload 7, 2) := by decide +kernel
theorem dL_law_185 : decode cL_law 185 = .ok (.aload 8, 2) := by decide +kernel
theorem dL_law_187 : decode cL_law 187 = .ok (.aload 9, 2) := by decide +kernel
theorem dL_law_189 : decode cL_law 189 = .ok (.aload 10, 2) := by decide +kernel
theorem dL_law_191 : decode cL_law 191 = .ok (.aload 11, 2) := by decide +kernel
theorem dL_law_193 : decode cL_law 193 = .ok (.invokestatic 205, 3) := by decide +kernel
theorem dL_law_196 : decode cL_law 196 = .ok (.ifCond .ne 5, 3) := by decide +kernel
theorem dL_law_199 : decode cL_law 199 = .ok (.iconst 0, 1) := by decide +kernel
theorem dL_law_200 : decode cL_law 200 = .ok (.ireturn, 1) := by decide +kernel
theorem dL_law_201 : decode cL_law 201 = .ok (.iinc 12 1, 3) := by decide +kernel
theorem dL_law_204 : decode cL_law 204 = .ok (.goto (-107), 3) := by decide +kernel
theorem dL_law_207 : decode cL_law 207 = .ok (.iconst 1, 1) := by decide +kernel
theorem dL_law_208 : decode cL_law 208 = .ok (.ireturn, 1) := by decide +kernel
