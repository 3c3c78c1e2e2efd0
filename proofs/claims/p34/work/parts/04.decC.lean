theorem dX0_init_0 : decode cX0_init 0 = .ok (.aload_n 0, 1) := by decide +kernel
theorem dX0_init_1 : decode cX0_init 1 = .ok (.invokespecial 3, 3) := by decide +kernel
theorem dX0_init_4 : decode cX0_init 4 = .ok (.aload_n 0, 1) := by decide +kernel
theorem dX0_init_5 : decode cX0_init 5 = .ok (.iload_n 1, 1) := by decide +kernel
theorem dX0_init_6 : decode cX0_init 6 = .ok (.putfield 9, 3) := by decide +kernel
theorem dX0_init_9 : decode cX0_init 9 = .ok (.aload_n 0, 1) := by decide +kernel
theorem dX0_init_10 : decode cX0_init 10 = .ok (.iconst 4, 1) := by decide +kernel
theorem dX0_init_11 : decode cX0_init 11 = .ok (.newarray .int, 2) := by decide +kernel
theorem dX0_init_13 : decode cX0_init 13 = .ok (.putfield 15, 3) := by decide +kernel
theorem dX0_init_16 : decode cX0_init 16 = .ok (.aload_n 0, 1) := by decide +kernel
theorem dX0_init_17 : decode cX0_init 17 = .ok (.new 19, 3) := by decide +kernel
theorem dX0_init_20 : decode cX0_init 20 = .ok (.dup, 1) := by decide +kernel
theorem dX0_init_21 : decode cX0_init 21 = .ok (.invokespecial 21, 3) := by decide +kernel
theorem dX0_init_24 : decode cX0_init 24 = .ok (.putfield 22, 3) := by decide +kernel
theorem dX0_init_27 : decode cX0_init 27 = .ok (.aload_n 0, 1) := by decide +kernel
theorem dX0_init_28 : decode cX0_init 28 = .ok (.new 19, 3) := by decide +kernel
theorem dX0_init_31 : decode cX0_init 31 = .ok (.dup, 1) := by decide +kernel
theorem dX0_init_32 : decode cX0_init 32 = .ok (.invokespecial 21, 3) := by decide +kernel
theorem dX0_init_35 : decode cX0_init 35 = .ok (.putfield 26, 3) := by decide +kernel
theorem dX0_init_38 : decode cX0_init 38 = .ok (.aload_n 0, 1) := by decide +kernel
theorem dX0_init_39 : decode cX0_init 39 = .ok (.iconst 1, 1) := by decide +kernel
theorem dX0_init_40 : decode cX0_init 40 = .ok (.putfield 29, 3) := by decide +kernel
theorem dX0_init_43 : decode cX0_init 43 = .ok (.aload_n 0, 1) := by decide +kernel
theorem dX0_init_44 : decode cX0_init 44 = .ok (.iconst 1, 1) := by decide +kernel
theorem dX0_init_45 : decode cX0_init 45 = .ok (.putfield 33, 3) := by decide +kernel
theorem dX0_init_48 : decode cX0_init 48 = .ok (.return_, 1) := by decide +kernel
theorem dX0_canReceive_0 : decode cX0_canReceive 0 = .ok (.iconst 0, 1) := by decide +kernel
theorem dX0_canReceive_1 : decode cX0_canReceive 1 = .ok (.istore_n 2, 1) := by decide +kernel
theorem dX0_canReceive_2 : decode cX0_canReceive 2 = .ok (.iload_n 2, 1) := by decide +kernel
theorem dX0_canReceive_3 : decode cX0_canReceive 3 = .ok (.iconst 4, 1) := by decide +kernel
theorem dX0_canReceive_4 : decode cX0_canReceive 4 = .ok (.if_icmp .ge 51, 3) := by decide +kernel
theorem dX0_canReceive_7 : decode cX0_canReceive 7 = .ok (.aload_n 1, 1) := by decide +kernel
theorem dX0_canReceive_8 : decode cX0_canReceive 8 = .ok (.getfield 36, 3) := by decide +kernel
theorem dX0_canReceive_11 : decode cX0_canReceive 11 = .ok (.iload_n 2, 1) := by decide +kernel
theorem dX0_canReceive_12 : decode cX0_canReceive 12 = .ok (.iaload, 1) := by decide +kernel
theorem dX0_canReceive_13 : decode cX0_canReceive 13 = .ok (.istore_n 3, 1) := by decide +kernel
theorem dX0_canReceive_14 : decode cX0_canReceive 14 = .ok (.iload_n 2, 1) := by decide +kernel
theorem dX0_canReceive_15 : decode cX0_canReceive 15 = .ok (.aload_n 1, 1) := by decide +kernel
theorem dX0_canReceive_16 : decode cX0_canReceive 16 = .ok (.getfield 41, 3) := by decide +kernel
theorem dX0_canReceive_19 : decode cX0_canReceive 19 = .ok (.if_icmp .ne 18, 3) := by decide +kernel
theorem dX0_canReceive_22 : decode cX0_canReceive 22 = .ok (.iload_n 3, 1) := by decide +kernel
theorem dX0_canReceive_23 : decode cX0_canReceive 23 = .ok (.aload_n 0, 1) := by decide +kernel
theorem dX0_canReceive_24 : decode cX0_canReceive 24 = .ok (.getfield 15, 3) := by decide +kernel
theorem dX0_canReceive_27 : decode cX0_canReceive 27 = .ok (.iload_n 2, 1) := by decide +kernel
theorem dX0_canReceive_28 : decode cX0_canReceive 28 = .ok (.iaload, 1) := by decide +kernel
theorem dX0_canReceive_29 : decode cX0_canReceive 29 = .ok (.iconst 1, 1) := by decide +kernel
theorem dX0_canReceive_30 : decode cX0_canReceive 30 = .ok (.iadd, 1) := by decide +kernel
theorem dX0_canReceive_31 : decode cX0_canReceive 31 = .ok (.if_icmp .eq 18, 3) := by decide +kernel
theorem dX0_canReceive_34 : decode cX0_canReceive 34 = .ok (.goto 13, 3) := by decide +kernel
theorem dX0_canReceive_37 : decode cX0_canReceive 37 = .ok (.iload_n 3, 1) := by decide +kernel
theorem dX0_canReceive_38 : decode cX0_canReceive 38 = .ok (.aload_n 0, 1) := by decide +kernel
theorem dX0_canReceive_39 : decode cX0_canReceive 39 = .ok (.getfield 15, 3) := by decide +kernel
theorem dX0_canReceive_42 : decode cX0_canReceive 42 = .ok (.iload_n 2, 1) := by decide +kernel
theorem dX0_canReceive_43 : decode cX0_canReceive 43 = .ok (.iaload, 1) := by decide +kernel
theorem dX0_canReceive_44 : decode cX0_canReceive 44 = .ok (.if_icmp .le 5, 3) := by decide +kernel
theorem dX0_canReceive_47 : decode cX0_canReceive 47 = .ok (.iconst 0, 1) := by decide +kernel
theorem dX0_canReceive_48 : decode cX0_canReceive 48 = .ok (.ireturn, 1) := by decide +kernel
theorem dX0_canReceive_49 : decode cX0_canReceive 49 = .ok (.iinc 2 1, 3) := by decide +kernel
theorem dX0_canReceive_52 : decode cX0_canReceive 52 = .ok (.goto (-50), 3) := by decide +kernel
theorem dX0_canReceive_55 : decode cX0_canReceive 55 = .ok (.iconst 1, 1) := by decide +kernel
theorem dX0_canReceive_56 : decode cX0_canReceive 56 = .ok (.ireturn, 1) := by decide +kernel
theorem dX0_firstReceivable_0 : decode cX0_firstReceivable 0 = .ok (.iconst 0, 1) := by decide +kernel
theorem dX0_firstReceivable_1 : decode cX0_firstReceivable 1 = .ok (.istore_n 1, 1) := by decide +kernel
theorem dX0_firstReceivable_2 : decode cX0_firstReceivable 2 = .ok (.iload_n 1, 1) := by decide +kernel
theorem dX0_firstReceivable_3 : decode cX0_firstReceivable 3 = .ok (.aload_n 0, 1) := by decide +kernel
theorem dX0_firstReceivable_4 : decode cX0_firstReceivable 4 = .ok (.getfield 26, 3) := by decide +kernel
theorem dX0_firstReceivable_7 : decode cX0_firstReceivable 7 = .ok (.invokevirtual 44, 3) := by decide +kernel
theorem dX0_firstReceivable_10 : decode cX0_firstReceivable 10 = .ok (.if_icmp .ge 29, 3) := by decide +kernel
theorem dX0_firstReceivable_13 : decode cX0_firstReceivable 13 = .ok (.aload_n 0, 1) := by decide +kernel
theorem dX0_firstReceivable_14 : decode cX0_firstReceivable 14 = .ok (.aload_n 0, 1) := by decide +kernel
theorem dX0_firstReceivable_15 : decode cX0_firstReceivable 15 = .ok (.getfield 26, 3) := by decide +kernel
theorem dX0_firstReceivable_18 : decode cX0_firstReceivable 18 = .ok (.iload_n 1, 1) := by decide +kernel
theorem dX0_firstReceivable_19 : decode cX0_firstReceivable 19 = .ok (.invokevirtual 48, 3) := by decide +kernel
theorem dX0_firstReceivable_22 : decode cX0_firstReceivable 22 = .ok (.checkcast 37, 3) := by decide +kernel
theorem dX0_firstReceivable_25 : decode cX0_firstReceivable 25 = .ok (.invokevirtual 52, 3) := by decide +kernel
theorem dX0_firstReceivable_28 : decode cX0_firstReceivable 28 = .ok (.ifCond .eq 5, 3) := by decide +kernel
theorem dX0_firstReceivable_31 : decode cX0_firstReceivable 31 = .ok (.iload_n 1, 1) := by decide +kernel
theorem dX0_firstReceivable_32 : decode cX0_firstReceivable 32 = .ok (.ireturn, 1) := by decide +kernel
theorem dX0_firstReceivable_33 : decode cX0_firstReceivable 33 = .ok (.iinc 1 1, 3) := by decide +kernel
theorem dX0_firstReceivable_36 : decode cX0_firstReceivable 36 = .ok (.goto (-34), 3) := by decide +kernel
theorem dX0_firstReceivable_39 : decode cX0_firstReceivable 39 = .ok (.iconst (-1), 1) := by decide +kernel
theorem dX0_firstReceivable_40 : decode cX0_firstReceivable 40 = .ok (.ireturn, 1) := by decide +kernel
theorem dX1_init_0 : decode cX1_init 0 = .ok (.aload_n 0, 1) := by decide +kernel
theorem dX1_init_1 : decode cX1_init 1 = .ok (.invokespecial 3, 3) := by decide +kernel
theorem dX1_init_4 : decode cX1_init 4 = .ok (.aload_n 0, 1) := by decide +kernel
theorem dX1_init_5 : decode cX1_init 5 = .ok (.iload_n 1, 1) := by decide +kernel
theorem dX1_init_6 : decode cX1_init 6 = .ok (.putfield 9, 3) := by decide +kernel
theorem dX1_init_9 : decode cX1_init 9 = .ok (.aload_n 0, 1) := by decide +kernel
theorem dX1_init_10 : decode cX1_init 10 = .ok (.iload_n 2, 1) := by decide +kernel
theorem dX1_init_11 : decode cX1_init 11 = .ok (.putfield 15, 3) := by decide +kernel
theorem dX1_init_14 : decode cX1_init 14 = .ok (.aload_n 0, 1) := by decide +kernel
theorem dX1_init_15 : decode cX1_init 15 = .ok (.iload_n 3, 1) := by decide +kernel
theorem dX1_init_16 : decode cX1_init 16 = .ok (.putfield 18, 3) := by decide +kernel
theorem dX1_init_19 : decode cX1_init 19 = .ok (.aload_n 0, 1) := by decide +kernel
theorem dX1_init_20 : decode cX1_init 20 = .ok (.iconst 4, 1) := by decide +kernel
theorem dX1_init_21 : decode cX1_init 21 = .ok (.newarray .int, 2) := by decide +kernel
theorem dX1_init_23 : decode cX1_init 23 = .ok (.putfield 21, 3) := by decide +kernel
theorem dX1_init_26 : decode cX1_init 26 = .ok (.aload_n 0, 1) := by decide +kernel
theorem dX1_init_27 : decode cX1_init 27 = .ok (.iconst 4, 1) := by decide +kernel
theorem dX1_init_28 : decode cX1_init 28 = .ok (.newarray .int, 2) := by decide +kernel
theorem dX1_init_30 : decode cX1_init 30 = .ok (.putfield 25, 3) := by decide +kernel
theorem dX1_init_33 : decode cX1_init 33 = .ok (.aload_n 0, 1) := by decide +kernel
theorem dX1_init_34 : decode cX1_init 34 = .ok (.iconst 4, 1) := by decide +kernel
theorem dX1_init_35 : decode cX1_init 35 = .ok (.newarray .int, 2) := by decide +kernel
theorem dX1_init_37 : decode cX1_init 37 = .ok (.putfield 28, 3) := by decide +kernel
theorem dX1_init_40 : decode cX1_init 40 = .ok (.aload_n 0, 1) := by decide +kernel
theorem dX1_init_41 : decode cX1_init 41 = .ok (.iconst 4, 1) := by decide +kernel
theorem dX1_init_42 : decode cX1_init 42 = .ok (.newarray .int, 2) := by decide +kernel
theorem dX1_init_44 : decode cX1_init 44 = .ok (.putfield 31, 3) := by decide +kernel
theorem dX1_init_47 : decode cX1_init 47 = .ok (.aload_n 0, 1) := by decide +kernel
theorem dX1_init_48 : decode cX1_init 48 = .ok (.getfield 28, 3) := by decide +kernel
theorem dX1_init_51 : decode cX1_init 51 = .ok (.iconst (-1), 1) := by decide +kernel
theorem dX1_init_52 : decode cX1_init 52 = .ok (.invokestatic 34, 3) := by decide +kernel
theorem dX1_init_55 : decode cX1_init 55 = .ok (.aload_n 0, 1) := by decide +kernel
theorem dX1_init_56 : decode cX1_init 56 = .ok (.getfield 31, 3) := by decide +kernel
theorem dX1_init_59 : decode cX1_init 59 = .ok (.iconst (-1), 1) := by decide +kernel
theorem dX1_init_60 : decode cX1_init 60 = .ok (.invokestatic 34, 3) := by decide +kernel
theorem dX1_init_63 : decode cX1_init 63 = .ok (.aload_n 0, 1) := by decide +kernel
theorem dX1_init_64 : decode cX1_init 64 = .ok (.iconst (-1), 1) := by decide +kernel
theorem dX1_init_65 : decode cX1_init 65 = .ok (.putfield 40, 3) := by decide +kernel
theorem dX1_init_68 : decode cX1_init 68 = .ok (.aload_n 0, 1) := by decide +kernel
theorem dX1_init_69 : decode cX1_init 69 = .ok (.iconst (-1), 1) := by decide +kernel
theorem dX1_init_70 : decode cX1_init 70 = .ok (.putfield 43, 3) := by decide +kernel
theorem dX1_init_73 : decode cX1_init 73 = .ok (.return_, 1) := by decide +kernel
theorem dX1_wasDeliveredTo_0 : decode cX1_wasDeliveredTo 0 = .ok (.aload_n 0, 1) := by decide +kernel
theorem dX1_wasDeliveredTo_1 : decode cX1_wasDeliveredTo 1 = .ok (.getfield 31, 3) := by decide +kernel
theorem dX1_wasDeliveredTo_4 : decode cX1_wasDeliveredTo 4 = .ok (.iload_n 1, 1) := by decide +kernel
theorem dX1_wasDeliveredTo_5 : decode cX1_wasDeliveredTo 5 = .ok (.iaload, 1) := by decide +kernel
theorem dX1_wasDeliveredTo_6 : decode cX1_wasDeliveredTo 6 = .ok (.iconst (-1), 1) := by decide +kernel
theorem dX1_wasDeliveredTo_7 : decode cX1_wasDeliveredTo 7 = .ok (.if_icmp .eq 7, 3) := by decide +kernel
theorem dX1_wasDeliveredTo_10 : decode cX1_wasDeliveredTo 10 = .ok (.iconst 1, 1) := by decide +kernel
theorem dX1_wasDeliveredTo_11 : decode cX1_wasDeliveredTo 11 = .ok (.goto 4, 3) := by decide +kernel
theorem dX1_wasDeliveredTo_14 : decode cX1_wasDeliveredTo 14 = .ok (.iconst 0, 1) := by decide +kernel
theorem dX1_wasDeliveredTo_15 : decode cX1_wasDeliveredTo 15 = .ok (.ireturn, 1) := by decide +kernel
theorem dX1_isBefore_0 : decode cX1_isBefore 0 = .ok (.aload_n 0, 1) := by decide +kernel
theorem dX1_isBefore_1 : decode cX1_isBefore 1 = .ok (.aload_n 1, 1) := by decide +kernel
theorem dX1_isBefore_2 : decode cX1_isBefore 2 = .ok (.if_acmp .eq 28, 3) := by decide +kernel
theorem dX1_isBefore_5 : decode cX1_isBefore 5 = .ok (.aload_n 1, 1) := by decide +kernel
theorem dX1_isBefore_6 : decode cX1_isBefore 6 = .ok (.getfield 21, 3) := by decide +kernel
theorem dX1_isBefore_9 : decode cX1_isBefore 9 = .ok (.aload_n 0, 1) := by decide +kernel
theorem dX1_isBefore_10 : decode cX1_isBefore 10 = .ok (.getfield 15, 3) := by decide +kernel
theorem dX1_isBefore_13 : decode cX1_isBefore 13 = .ok (.iaload, 1) := by decide +kernel
theorem dX1_isBefore_14 : decode cX1_isBefore 14 = .ok (.aload_n 0, 1) := by decide +kernel
theorem dX1_isBefore_15 : decode cX1_isBefore 15 = .ok (.getfield 21, 3) := by decide +kernel
theorem dX1_isBefore_18 : decode cX1_isBefore 18 = .ok (.aload_n 0, 1) := by decide +kernel
theorem dX1_isBefore_19 : decode cX1_isBefore 19 = .ok (.getfield 15, 3) := by decide +kernel
theorem dX1_isBefore_22 : decode cX1_isBefore 22 = .ok (.iaload, 1) := by decide +kernel
theorem dX1_isBefore_23 : decode cX1_isBefore 23 = .ok (.if_icmp .lt 7, 3) := by decide +kernel
theorem dX1_isBefore_26 : decode cX1_isBefore 26 = .ok (.iconst 1, 1) := by decide +kernel
theorem dX1_isBefore_27 : decode cX1_isBefore 27 = .ok (.goto 4, 3) := by decide +kernel
theorem dX1_isBefore_30 : decode cX1_isBefore 30 = .ok (.iconst 0, 1) := by decide +kernel
theorem dX1_isBefore_31 : decode cX1_isBefore 31 = .ok (.ireturn, 1) := by decide +kernel
theorem dX1_isInHistoryOf_0 : decode cX1_isInHistoryOf 0 = .ok (.aload_n 0, 1) := by decide +kernel
theorem dX1_isInHistoryOf_1 : decode cX1_isInHistoryOf 1 = .ok (.getfield 31, 3) := by decide +kernel
theorem dX1_isInHistoryOf_4 : decode cX1_isInHistoryOf 4 = .ok (.aload_n 1, 1) := by decide +kernel
theorem dX1_isInHistoryOf_5 : decode cX1_isInHistoryOf 5 = .ok (.getfield 15, 3) := by decide +kernel
theorem dX1_isInHistoryOf_8 : decode cX1_isInHistoryOf 8 = .ok (.iaload, 1) := by decide +kernel
theorem dX1_isInHistoryOf_9 : decode cX1_isInHistoryOf 9 = .ok (.istore_n 2, 1) := by decide +kernel
theorem dX1_isInHistoryOf_10 : decode cX1_isInHistoryOf 10 = .ok (.iload_n 2, 1) := by decide +kernel
theorem dX1_isInHistoryOf_11 : decode cX1_isInHistoryOf 11 = .ok (.iconst (-1), 1) := by decide +kernel
theorem dX1_isInHistoryOf_12 : decode cX1_isInHistoryOf 12 = .ok (.if_icmp .eq 15, 3) := by decide +kernel
theorem dX1_isInHistoryOf_15 : decode cX1_isInHistoryOf 15 = .ok (.iload_n 2, 1) := by decide +kernel
theorem dX1_isInHistoryOf_16 : decode cX1_isInHistoryOf 16 = .ok (.aload_n 1, 1) := by decide +kernel
theorem dX1_isInHistoryOf_17 : decode cX1_isInHistoryOf 17 = .ok (.getfield 18, 3) := by decide +kernel
theorem dX1_isInHistoryOf_20 : decode cX1_isInHistoryOf 20 = .ok (.if_icmp .ge 7, 3) := by decide +kernel
theorem dX1_isInHistoryOf_23 : decode cX1_isInHistoryOf 23 = .ok (.iconst 1, 1) := by decide +kernel
theorem dX1_isInHistoryOf_24 : decode cX1_isInHistoryOf 24 = .ok (.goto 4, 3) := by decide +kernel
theorem dX1_isInHistoryOf_27 : decode cX1_isInHistoryOf 27 = .ok (.iconst 0, 1) := by decide +kernel
theorem dX1_isInHistoryOf_28 : decode cX1_isInHistoryOf 28 = .ok (.ireturn, 1) := by decide +kernel
theorem dX1_greatestProposal_0 : decode cX1_greatestProposal 0 = .ok (.iconst (-1), 1) := by decide +kernel
theorem dX1_greatestProposal_1 : decode cX1_greatestProposal 1 = .ok (.istore_n 1, 1) := by decide +kernel
theorem dX1_greatestProposal_2 : decode cX1_greatestProposal 2 = .ok (.iconst 0, 1) := by decide +kernel
theorem dX1_greatestProposal_3 : decode cX1_greatestProposal 3 = .ok (.istore_n 2, 1) := by decide +kernel
theorem dX1_greatestProposal_4 : decode cX1_greatestProposal 4 = .ok (.iload_n 2, 1) := by decide +kernel
theorem dX1_greatestProposal_5 : decode cX1_greatestProposal 5 = .ok (.iconst 4, 1) := by decide +kernel
theorem dX1_greatestProposal_6 : decode cX1_greatestProposal 6 = .ok (.if_icmp .ge 20, 3) := by decide +kernel
theorem dX1_greatestProposal_9 : decode cX1_greatestProposal 9 = .ok (.iload_n 1, 1) := by decide +kernel
theorem dX1_greatestProposal_10 : decode cX1_greatestProposal 10 = .ok (.aload_n 0, 1) := by decide +kernel
theorem dX1_greatestProposal_11 : decode cX1_greatestProposal 11 = .ok (.getfield 28, 3) := by decide +kernel
theorem dX1_greatestProposal_14 : decode cX1_greatestProposal 14 = .ok (.iload_n 2, 1) := by decide +kernel
theorem dX1_greatestProposal_15 : decode cX1_greatestProposal 15 = .ok (.iaload, 1) := by decide +kernel
theorem dX1_greatestProposal_16 : decode cX1_greatestProposal 16 = .ok (.invokestatic 46, 3) := by decide +kernel
theorem dX1_greatestProposal_19 : decode cX1_greatestProposal 19 = .ok (.istore_n 1, 1) := by decide +kernel
theorem dX1_greatestProposal_20 : decode cX1_greatestProposal 20 = .ok (.iinc 2 1, 3) := by decide +kernel
theorem dX1_greatestProposal_23 : decode cX1_greatestProposal 23 = .ok (.goto (-19), 3) := by decide +kernel
theorem dX1_greatestProposal_26 : decode cX1_greatestProposal 26 = .ok (.iload_n 1, 1) := by decide +kernel
theorem dX1_greatestProposal_27 : decode cX1_greatestProposal 27 = .ok (.ireturn, 1) := by decide +kernel
theorem dX2_init_0 : decode cX2_init 0 = .ok (.aload_n 0, 1) := by decide +kernel
theorem dX2_init_1 : decode cX2_init 1 = .ok (.invokespecial 1, 3) := by decide +kernel
theorem dX2_init_4 : decode cX2_init 4 = .ok (.aload_n 0, 1) := by decide +kernel
theorem dX2_init_5 : decode cX2_init 5 = .ok (.iconst 4, 1) := by decide +kernel
theorem dX2_init_6 : decode cX2_init 6 = .ok (.anewarray 9, 3) := by decide +kernel
theorem dX2_init_9 : decode cX2_init 9 = .ok (.putfield 11, 3) := by decide +kernel
theorem dX2_init_12 : decode cX2_init 12 = .ok (.iconst 0, 1) := by decide +kernel
theorem dX2_init_13 : decode cX2_init 13 = .ok (.istore_n 1, 1) := by decide +kernel
theorem dX2_init_14 : decode cX2_init 14 = .ok (.iload_n 1, 1) := by decide +kernel
theorem dX2_init_15 : decode cX2_init 15 = .ok (.iconst 4, 1) := by decide +kernel
theorem dX2_init_16 : decode cX2_init 16 = .ok (.if_icmp .ge 23, 3) := by decide +kernel
theorem dX2_init_19 : decode cX2_init 19 = .ok (.aload_n 0, 1) := by decide +kernel
theorem dX2_init_20 : decode cX2_init 20 = .ok (.getfield 11, 3) := by decide +kernel
theorem dX2_init_23 : decode cX2_init 23 = .ok (.iload_n 1, 1) := by decide +kernel
theorem dX2_init_24 : decode cX2_init 24 = .ok (.new 9, 3) := by decide +kernel
theorem dX2_init_27 : decode cX2_init 27 = .ok (.dup, 1) := by decide +kernel
theorem dX2_init_28 : decode cX2_init 28 = .ok (.iload_n 1, 1) := by decide +kernel
theorem dX2_init_29 : decode cX2_init 29 = .ok (.invokespecial 15, 3) := by decide +kernel
theorem dX2_init_32 : decode cX2_init 32 = .ok (.aastore, 1) := by decide +kernel
theorem dX2_init_33 : decode cX2_init 33 = .ok (.iinc 1 1, 3) := by decide +kernel
theorem dX2_init_36 : decode cX2_init 36 = .ok (.goto (-22), 3) := by decide +kernel
theorem dX2_init_39 : decode cX2_init 39 = .ok (.aload_n 0, 1) := by decide +kernel
theorem dX2_init_40 : decode cX2_init 40 = .ok (.new 18, 3) := by decide +kernel
theorem dX2_init_43 : decode cX2_init 43 = .ok (.dup, 1) := by decide +kernel
theorem dX2_init_44 : decode cX2_init 44 = .ok (.invokespecial 20, 3) := by decide +kernel
theorem dX2_init_47 : decode cX2_init 47 = .ok (.putfield 21, 3) := by decide +kernel
theorem dX2_init_50 : decode cX2_init 50 = .ok (.aload_n 0, 1) := by decide +kernel
theorem dX2_init_51 : decode cX2_init 51 = .ok (.new 18, 3) := by decide +kernel
theorem dX2_init_54 : decode cX2_init 54 = .ok (.dup, 1) := by decide +kernel
theorem dX2_init_55 : decode cX2_init 55 = .ok (.invokespecial 20, 3) := by decide +kernel
theorem dX2_init_58 : decode cX2_init 58 = .ok (.putfield 25, 3) := by decide +kernel
theorem dX2_init_61 : decode cX2_init 61 = .ok (.aload_n 0, 1) := by decide +kernel
theorem dX2_init_62 : decode cX2_init 62 = .ok (.new 18, 3) := by decide +kernel
theorem dX2_init_65 : decode cX2_init 65 = .ok (.dup, 1) := by decide +kernel
theorem dX2_init_66 : decode cX2_init 66 = .ok (.invokespecial 20, 3) := by decide +kernel
theorem dX2_init_69 : decode cX2_init 69 = .ok (.putfield 28, 3) := by decide +kernel
theorem dX2_init_72 : decode cX2_init 72 = .ok (.return_, 1) := by decide +kernel
theorem dX2_send_0 : decode cX2_send 0 = .ok (.aload_n 0, 1) := by decide +kernel
theorem dX2_send_1 : decode cX2_send 1 = .ok (.iload_n 1, 1) := by decide +kernel
theorem dX2_send_2 : decode cX2_send 2 = .ok (.invokevirtual 31, 3) := by decide +kernel
theorem dX2_send_5 : decode cX2_send 5 = .ok (.aload_n 0, 1) := by decide +kernel
theorem dX2_send_6 : decode cX2_send 6 = .ok (.getfield 11, 3) := by decide +kernel
theorem dX2_send_9 : decode cX2_send 9 = .ok (.iload_n 1, 1) := by decide +kernel
theorem dX2_send_10 : decode cX2_send 10 = .ok (.aaload, 1) := by decide +kernel
theorem dX2_send_11 : decode cX2_send 11 = .ok (.getfield 34, 3) := by decide +kernel
theorem dX2_send_14 : decode cX2_send 14 = .ok (.ifCond .eq 22, 3) := by decide +kernel
theorem dX2_send_17 : decode cX2_send 17 = .ok (.aload_n 0, 1) := by decide +kernel
theorem dX2_send_18 : decode cX2_send 18 = .ok (.invokevirtual 38, 3) := by decide +kernel
theorem dX2_send_21 : decode cX2_send 21 = .ok (.ifCond .ne 15, 3) := by decide +kernel
theorem dX2_send_24 : decode cX2_send 24 = .ok (.aload_n 0, 1) := by decide +kernel
theorem dX2_send_25 : decode cX2_send 25 = .ok (.getfield 21, 3) := by decide +kernel
theorem dX2_send_28 : decode cX2_send 28 = .ok (.invokevirtual 42, 3) := by decide +kernel
theorem dX2_send_31 : decode cX2_send 31 = .ok (.bipush 48, 2) := by decide +kernel
theorem dX2_send_33 : decode cX2_send 33 = .ok (.if_icmp .lt 13, 3) := by decide +kernel
theorem dX2_send_36 : decode cX2_send 36 = .ok (.new 46, 3) := by decide +kernel
theorem dX2_send_39 : decode cX2_send 39 = .ok (.dup, 1) := by decide +kernel
theorem dX2_send_40 : decode cX2_send 40 = .ok (.ldc 48, 2) := by decide +kernel
theorem dX2_send_42 : decode cX2_send 42 = .ok (.invokespecial 50, 3) := by decide +kernel
theorem dX2_send_45 : decode cX2_send 45 = .ok (.athrow, 1) := by decide +kernel
theorem dX2_send_46 : decode cX2_send 46 = .ok (.aload_n 0, 1) := by decide +kernel
theorem dX2_send_47 : decode cX2_send 47 = .ok (.getfield 11, 3) := by decide +kernel
theorem dX2_send_50 : decode cX2_send 50 = .ok (.iload_n 1, 1) := by decide +kernel
theorem dX2_send_51 : decode cX2_send 51 = .ok (.aaload, 1) := by decide +kernel
theorem dX2_send_52 : decode cX2_send 52 = .ok (.astore_n 2, 1) := by decide +kernel
theorem dX2_send_53 : decode cX2_send 53 = .ok (.new 53, 3) := by decide +kernel
theorem dX2_send_56 : decode cX2_send 56 = .ok (.dup, 1) := by decide +kernel
theorem dX2_send_57 : decode cX2_send 57 = .ok (.aload_n 0, 1) := by decide +kernel
theorem dX2_send_58 : decode cX2_send 58 = .ok (.getfield 21, 3) := by decide +kernel
theorem dX2_send_61 : decode cX2_send 61 = .ok (.invokevirtual 42, 3) := by decide +kernel
theorem dX2_send_64 : decode cX2_send 64 = .ok (.iload_n 1, 1) := by decide +kernel
theorem dX2_send_65 : decode cX2_send 65 = .ok (.aload_n 2, 1) := by decide +kernel
theorem dX2_send_66 : decode cX2_send 66 = .ok (.getfield 55, 3) := by decide +kernel
theorem dX2_send_69 : decode cX2_send 69 = .ok (.invokevirtual 42, 3) := by decide +kernel
theorem dX2_send_72 : decode cX2_send 72 = .ok (.invokespecial 58, 3) := by decide +kernel
theorem dX2_send_75 : decode cX2_send 75 = .ok (.astore_n 3, 1) := by decide +kernel
theorem dX2_send_76 : decode cX2_send 76 = .ok (.aload_n 0, 1) := by decide +kernel
theorem dX2_send_77 : decode cX2_send 77 = .ok (.getfield 21, 3) := by decide +kernel
theorem dX2_send_80 : decode cX2_send 80 = .ok (.aload_n 3, 1) := by decide +kernel
theorem dX2_send_81 : decode cX2_send 81 = .ok (.invokevirtual 61, 3) := by decide +kernel
theorem dX2_send_84 : decode cX2_send 84 = .ok (.pop, 1) := by decide +kernel
theorem dX2_send_85 : decode cX2_send 85 = .ok (.aload_n 0, 1) := by decide +kernel
theorem dX2_send_86 : decode cX2_send 86 = .ok (.aload_n 3, 1) := by decide +kernel
theorem dX2_send_87 : decode cX2_send 87 = .ok (.invokevirtual 65, 3) := by decide +kernel
theorem dX2_send_90 : decode cX2_send 90 = .ok (.aload_n 0, 1) := by decide +kernel
theorem dX2_send_91 : decode cX2_send 91 = .ok (.aload_n 3, 1) := by decide +kernel
theorem dX2_send_92 : decode cX2_send 92 = .ok (.aload_n 2, 1) := by decide +kernel
theorem dX2_send_93 : decode cX2_send 93 = .ok (.invokevirtual 69, 3) := by decide +kernel
theorem dX2_send_96 : decode cX2_send 96 = .ok (.aload_n 2, 1) := by decide +kernel
theorem dX2_send_97 : decode cX2_send 97 = .ok (.getfield 73, 3) := by decide +kernel
theorem dX2_send_100 : decode cX2_send 100 = .ok (.iconst 0, 1) := by decide +kernel
theorem dX2_send_101 : decode cX2_send 101 = .ok (.aload_n 3, 1) := by decide +kernel
theorem dX2_send_102 : decode cX2_send 102 = .ok (.getfield 77, 3) := by decide +kernel
theorem dX2_send_105 : decode cX2_send 105 = .ok (.iconst 0, 1) := by decide +kernel
theorem dX2_send_106 : decode cX2_send 106 = .ok (.iconst 4, 1) := by decide +kernel
theorem dX2_send_107 : decode cX2_send 107 = .ok (.invokestatic 80, 3) := by decide +kernel
theorem dX2_send_110 : decode cX2_send 110 = .ok (.aload_n 0, 1) := by decide +kernel
theorem dX2_send_111 : decode cX2_send 111 = .ok (.aload_n 3, 1) := by decide +kernel
theorem dX2_send_112 : decode cX2_send 112 = .ok (.aload_n 2, 1) := by decide +kernel
theorem dX2_send_113 : decode cX2_send 113 = .ok (.invokevirtual 86, 3) := by decide +kernel
theorem dX2_send_116 : decode cX2_send 116 = .ok (.aload_n 3, 1) := by decide +kernel
theorem dX2_send_117 : decode cX2_send 117 = .ok (.getfield 89, 3) := by decide +kernel
theorem dX2_send_120 : decode cX2_send 120 = .ok (.ireturn, 1) := by decide +kernel
theorem dX2_arrive_0 : decode cX2_arrive 0 = .ok (.aload_n 0, 1) := by decide +kernel
theorem dX2_arrive_1 : decode cX2_arrive 1 = .ok (.iload_n 1, 1) := by decide +kernel
theorem dX2_arrive_2 : decode cX2_arrive 2 = .ok (.iload_n 2, 1) := by decide +kernel
theorem dX2_arrive_3 : decode cX2_arrive 3 = .ok (.invokevirtual 93, 3) := by decide +kernel
theorem dX2_arrive_6 : decode cX2_arrive 6 = .ok (.aload_n 0, 1) := by decide +kernel
theorem dX2_arrive_7 : decode cX2_arrive 7 = .ok (.getfield 11, 3) := by decide +kernel
theorem dX2_arrive_10 : decode cX2_arrive 10 = .ok (.iload_n 2, 1) := by decide +kernel
theorem dX2_arrive_11 : decode cX2_arrive 11 = .ok (.aaload, 1) := by decide +kernel
theorem dX2_arrive_12 : decode cX2_arrive 12 = .ok (.getfield 34, 3) := by decide +kernel
theorem dX2_arrive_15 : decode cX2_arrive 15 = .ok (.ifCond .eq 22, 3) := by decide +kernel
theorem dX2_arrive_18 : decode cX2_arrive 18 = .ok (.aload_n 0, 1) := by decide +kernel
theorem dX2_arrive_19 : decode cX2_arrive 19 = .ok (.getfield 21, 3) := by decide +kernel
theorem dX2_arrive_22 : decode cX2_arrive 22 = .ok (.iload_n 1, 1) := by decide +kernel
theorem dX2_arrive_23 : decode cX2_arrive 23 = .ok (.invokevirtual 97, 3) := by decide +kernel
theorem dX2_arrive_26 : decode cX2_arrive 26 = .ok (.checkcast 53, 3) := by decide +kernel
theorem dX2_arrive_29 : decode cX2_arrive 29 = .ok (.getfield 101, 3) := by decide +kernel
theorem dX2_arrive_32 : decode cX2_arrive 32 = .ok (.iload_n 2, 1) := by decide +kernel
theorem dX2_arrive_33 : decode cX2_arrive 33 = .ok (.iaload, 1) := by decide +kernel
theorem dX2_arrive_34 : decode cX2_arrive 34 = .ok (.ifCond .eq 13, 3) := by decide +kernel
theorem dX2_arrive_37 : decode cX2_arrive 37 = .ok (.new 46, 3) := by decide +kernel
theorem dX2_arrive_40 : decode cX2_arrive 40 = .ok (.dup, 1) := by decide +kernel
theorem dX2_arrive_41 : decode cX2_arrive 41 = .ok (.ldc 104, 2) := by decide +kernel
theorem dX2_arrive_43 : decode cX2_arrive 43 = .ok (.invokespecial 50, 3) := by decide +kernel
theorem dX2_arrive_46 : decode cX2_arrive 46 = .ok (.athrow, 1) := by decide +kernel
theorem dX2_arrive_47 : decode cX2_arrive 47 = .ok (.aload_n 0, 1) := by decide +kernel
theorem dX2_arrive_48 : decode cX2_arrive 48 = .ok (.aload_n 0, 1) := by decide +kernel
theorem dX2_arrive_49 : decode cX2_arrive 49 = .ok (.getfield 21, 3) := by decide +kernel
theorem dX2_arrive_52 : decode cX2_arrive 52 = .ok (.iload_n 1, 1) := by decide +kernel
theorem dX2_arrive_53 : decode cX2_arrive 53 = .ok (.invokevirtual 97, 3) := by decide +kernel
theorem dX2_arrive_56 : decode cX2_arrive 56 = .ok (.checkcast 53, 3) := by decide +kernel
theorem dX2_arrive_59 : decode cX2_arrive 59 = .ok (.aload_n 0, 1) := by decide +kernel
theorem dX2_arrive_60 : decode cX2_arrive 60 = .ok (.getfield 11, 3) := by decide +kernel
theorem dX2_arrive_63 : decode cX2_arrive 63 = .ok (.iload_n 2, 1) := by decide +kernel
theorem dX2_arrive_64 : decode cX2_arrive 64 = .ok (.aaload, 1) := by decide +kernel
theorem dX2_arrive_65 : decode cX2_arrive 65 = .ok (.invokevirtual 86, 3) := by decide +kernel
theorem dX2_arrive_68 : decode cX2_arrive 68 = .ok (.aload_n 0, 1) := by decide +kernel
theorem dX2_arrive_69 : decode cX2_arrive 69 = .ok (.aload_n 0, 1) := by decide +kernel
theorem dX2_arrive_70 : decode cX2_arrive 70 = .ok (.getfield 21, 3) := by decide +kernel
theorem dX2_arrive_73 : decode cX2_arrive 73 = .ok (.iload_n 1, 1) := by decide +kernel
theorem dX2_arrive_74 : decode cX2_arrive 74 = .ok (.invokevirtual 97, 3) := by decide +kernel
theorem dX2_arrive_77 : decode cX2_arrive 77 = .ok (.checkcast 53, 3) := by decide +kernel
theorem dX2_arrive_80 : decode cX2_arrive 80 = .ok (.aload_n 0, 1) := by decide +kernel
theorem dX2_arrive_81 : decode cX2_arrive 81 = .ok (.getfield 11, 3) := by decide +kernel
theorem dX2_arrive_84 : decode cX2_arrive 84 = .ok (.iload_n 2, 1) := by decide +kernel
theorem dX2_arrive_85 : decode cX2_arrive 85 = .ok (.aaload, 1) := by decide +kernel
theorem dX2_arrive_86 : decode cX2_arrive 86 = .ok (.invokevirtual 106, 3) := by decide +kernel
theorem dX2_arrive_89 : decode cX2_arrive 89 = .ok (.ireturn, 1) := by decide +kernel
theorem dX2_lose_0 : decode cX2_lose 0 = .ok (.aload_n 0, 1) := by decide +kernel
theorem dX2_lose_1 : decode cX2_lose 1 = .ok (.iload_n 1, 1) := by decide +kernel
theorem dX2_lose_2 : decode cX2_lose 2 = .ok (.iload_n 2, 1) := by decide +kernel
theorem dX2_lose_3 : decode cX2_lose 3 = .ok (.invokevirtual 93, 3) := by decide +kernel
theorem dX2_lose_6 : decode cX2_lose 6 = .ok (.aload_n 0, 1) := by decide +kernel
theorem dX2_lose_7 : decode cX2_lose 7 = .ok (.getfield 21, 3) := by decide +kernel
theorem dX2_lose_10 : decode cX2_lose 10 = .ok (.iload_n 1, 1) := by decide +kernel
theorem dX2_lose_11 : decode cX2_lose 11 = .ok (.invokevirtual 97, 3) := by decide +kernel
theorem dX2_lose_14 : decode cX2_lose 14 = .ok (.checkcast 53, 3) := by decide +kernel
theorem dX2_lose_17 : decode cX2_lose 17 = .ok (.getfield 101, 3) := by decide +kernel
theorem dX2_lose_20 : decode cX2_lose 20 = .ok (.iload_n 2, 1) := by decide +kernel
theorem dX2_lose_21 : decode cX2_lose 21 = .ok (.iaload, 1) := by decide +kernel
theorem dX2_lose_22 : decode cX2_lose 22 = .ok (.ifCond .eq 13, 3) := by decide +kernel
theorem dX2_lose_25 : decode cX2_lose 25 = .ok (.new 46, 3) := by decide +kernel
theorem dX2_lose_28 : decode cX2_lose 28 = .ok (.dup, 1) := by decide +kernel
theorem dX2_lose_29 : decode cX2_lose 29 = .ok (.ldc 110, 2) := by decide +kernel
theorem dX2_lose_31 : decode cX2_lose 31 = .ok (.invokespecial 50, 3) := by decide +kernel
theorem dX2_lose_34 : decode cX2_lose 34 = .ok (.athrow, 1) := by decide +kernel
theorem dX2_lose_35 : decode cX2_lose 35 = .ok (.aload_n 0, 1) := by decide +kernel
theorem dX2_lose_36 : decode cX2_lose 36 = .ok (.getfield 21, 3) := by decide +kernel
theorem dX2_lose_39 : decode cX2_lose 39 = .ok (.iload_n 1, 1) := by decide +kernel
theorem dX2_lose_40 : decode cX2_lose 40 = .ok (.invokevirtual 97, 3) := by decide +kernel
theorem dX2_lose_43 : decode cX2_lose 43 = .ok (.checkcast 53, 3) := by decide +kernel
theorem dX2_lose_46 : decode cX2_lose 46 = .ok (.getfield 101, 3) := by decide +kernel
theorem dX2_lose_49 : decode cX2_lose 49 = .ok (.iload_n 2, 1) := by decide +kernel
theorem dX2_lose_50 : decode cX2_lose 50 = .ok (.iconst 3, 1) := by decide +kernel
theorem dX2_lose_51 : decode cX2_lose 51 = .ok (.iastore, 1) := by decide +kernel
theorem dX2_lose_52 : decode cX2_lose 52 = .ok (.return_, 1) := by decide +kernel
theorem dX2_sendAgain_0 : decode cX2_sendAgain 0 = .ok (.aload_n 0, 1) := by decide +kernel
theorem dX2_sendAgain_1 : decode cX2_sendAgain 1 = .ok (.iload_n 1, 1) := by decide +kernel
theorem dX2_sendAgain_2 : decode cX2_sendAgain 2 = .ok (.iload_n 2, 1) := by decide +kernel
theorem dX2_sendAgain_3 : decode cX2_sendAgain 3 = .ok (.invokevirtual 93, 3) := by decide +kernel
theorem dX2_sendAgain_6 : decode cX2_sendAgain 6 = .ok (.aload_n 0, 1) := by decide +kernel
theorem dX2_sendAgain_7 : decode cX2_sendAgain 7 = .ok (.getfield 21, 3) := by decide +kernel
theorem dX2_sendAgain_10 : decode cX2_sendAgain 10 = .ok (.iload_n 1, 1) := by decide +kernel
theorem dX2_sendAgain_11 : decode cX2_sendAgain 11 = .ok (.invokevirtual 97, 3) := by decide +kernel
theorem dX2_sendAgain_14 : decode cX2_sendAgain 14 = .ok (.checkcast 53, 3) := by decide +kernel
theorem dX2_sendAgain_17 : decode cX2_sendAgain 17 = .ok (.getfield 101, 3) := by decide +kernel
theorem dX2_sendAgain_20 : decode cX2_sendAgain 20 = .ok (.iload_n 2, 1) := by decide +kernel
theorem dX2_sendAgain_21 : decode cX2_sendAgain 21 = .ok (.iaload, 1) := by decide +kernel
theorem dX2_sendAgain_22 : decode cX2_sendAgain 22 = .ok (.iconst 3, 1) := by decide +kernel
theorem dX2_sendAgain_23 : decode cX2_sendAgain 23 = .ok (.if_icmp .eq 13, 3) := by decide +kernel
theorem dX2_sendAgain_26 : decode cX2_sendAgain 26 = .ok (.new 46, 3) := by decide +kernel
theorem dX2_sendAgain_29 : decode cX2_sendAgain 29 = .ok (.dup, 1) := by decide +kernel
theorem dX2_sendAgain_30 : decode cX2_sendAgain 30 = .ok (.ldc 112, 2) := by decide +kernel
theorem dX2_sendAgain_32 : decode cX2_sendAgain 32 = .ok (.invokespecial 50, 3) := by decide +kernel
theorem dX2_sendAgain_35 : decode cX2_sendAgain 35 = .ok (.athrow, 1) := by decide +kernel
theorem dX2_sendAgain_36 : decode cX2_sendAgain 36 = .ok (.aload_n 0, 1) := by decide +kernel
theorem dX2_sendAgain_37 : decode cX2_sendAgain 37 = .ok (.getfield 21, 3) := by decide +kernel
theorem dX2_sendAgain_40 : decode cX2_sendAgain 40 = .ok (.iload_n 1, 1) := by decide +kernel
theorem dX2_sendAgain_41 : decode cX2_sendAgain 41 = .ok (.invokevirtual 97, 3) := by decide +kernel
theorem dX2_sendAgain_44 : decode cX2_sendAgain 44 = .ok (.checkcast 53, 3) := by decide +kernel
theorem dX2_sendAgain_47 : decode cX2_sendAgain 47 = .ok (.getfield 101, 3) := by decide +kernel
theorem dX2_sendAgain_50 : decode cX2_sendAgain 50 = .ok (.iload_n 2, 1) := by decide +kernel
theorem dX2_sendAgain_51 : decode cX2_sendAgain 51 = .ok (.iconst 0, 1) := by decide +kernel
theorem dX2_sendAgain_52 : decode cX2_sendAgain 52 = .ok (.iastore, 1) := by decide +kernel
theorem dX2_sendAgain_53 : decode cX2_sendAgain 53 = .ok (.return_, 1) := by decide +kernel
theorem dX2_messages_0 : decode cX2_messages 0 = .ok (.aload_n 0, 1) := by decide +kernel
theorem dX2_messages_1 : decode cX2_messages 1 = .ok (.getfield 21, 3) := by decide +kernel
theorem dX2_messages_4 : decode cX2_messages 4 = .ok (.invokevirtual 42, 3) := by decide +kernel
theorem dX2_messages_7 : decode cX2_messages 7 = .ok (.ireturn, 1) := by decide +kernel
theorem dX2_sender_0 : decode cX2_sender 0 = .ok (.aload_n 0, 1) := by decide +kernel
theorem dX2_sender_1 : decode cX2_sender 1 = .ok (.iload_n 1, 1) := by decide +kernel
theorem dX2_sender_2 : decode cX2_sender 2 = .ok (.invokevirtual 114, 3) := by decide +kernel
theorem dX2_sender_5 : decode cX2_sender 5 = .ok (.aload_n 0, 1) := by decide +kernel
theorem dX2_sender_6 : decode cX2_sender 6 = .ok (.getfield 21, 3) := by decide +kernel
theorem dX2_sender_9 : decode cX2_sender 9 = .ok (.iload_n 1, 1) := by decide +kernel
theorem dX2_sender_10 : decode cX2_sender 10 = .ok (.invokevirtual 97, 3) := by decide +kernel
theorem dX2_sender_13 : decode cX2_sender 13 = .ok (.checkcast 53, 3) := by decide +kernel
theorem dX2_sender_16 : decode cX2_sender 16 = .ok (.getfield 117, 3) := by decide +kernel
theorem dX2_sender_19 : decode cX2_sender 19 = .ok (.ireturn, 1) := by decide +kernel
theorem dX2_copy_0 : decode cX2_copy 0 = .ok (.aload_n 0, 1) := by decide +kernel
theorem dX2_copy_1 : decode cX2_copy 1 = .ok (.iload_n 1, 1) := by decide +kernel
theorem dX2_copy_2 : decode cX2_copy 2 = .ok (.iload_n 2, 1) := by decide +kernel
theorem dX2_copy_3 : decode cX2_copy 3 = .ok (.invokevirtual 93, 3) := by decide +kernel
theorem dX2_copy_6 : decode cX2_copy 6 = .ok (.aload_n 0, 1) := by decide +kernel
theorem dX2_copy_7 : decode cX2_copy 7 = .ok (.getfield 21, 3) := by decide +kernel
theorem dX2_copy_10 : decode cX2_copy 10 = .ok (.iload_n 1, 1) := by decide +kernel
theorem dX2_copy_11 : decode cX2_copy 11 = .ok (.invokevirtual 97, 3) := by decide +kernel
theorem dX2_copy_14 : decode cX2_copy 14 = .ok (.checkcast 53, 3) := by decide +kernel
theorem dX2_copy_17 : decode cX2_copy 17 = .ok (.getfield 101, 3) := by decide +kernel
theorem dX2_copy_20 : decode cX2_copy 20 = .ok (.iload_n 2, 1) := by decide +kernel
theorem dX2_copy_21 : decode cX2_copy 21 = .ok (.iaload, 1) := by decide +kernel
theorem dX2_copy_22 : decode cX2_copy 22 = .ok (.ireturn, 1) := by decide +kernel
theorem dX2_clock_0 : decode cX2_clock 0 = .ok (.aload_n 0, 1) := by decide +kernel
theorem dX2_clock_1 : decode cX2_clock 1 = .ok (.iload_n 1, 1) := by decide +kernel
theorem dX2_clock_2 : decode cX2_clock 2 = .ok (.invokevirtual 31, 3) := by decide +kernel
theorem dX2_clock_5 : decode cX2_clock 5 = .ok (.aload_n 0, 1) := by decide +kernel
theorem dX2_clock_6 : decode cX2_clock 6 = .ok (.iload_n 2, 1) := by decide +kernel
theorem dX2_clock_7 : decode cX2_clock 7 = .ok (.invokevirtual 31, 3) := by decide +kernel
theorem dX2_clock_10 : decode cX2_clock 10 = .ok (.aload_n 0, 1) := by decide +kernel
theorem dX2_clock_11 : decode cX2_clock 11 = .ok (.getfield 11, 3) := by decide +kernel
theorem dX2_clock_14 : decode cX2_clock 14 = .ok (.iload_n 1, 1) := by decide +kernel
theorem dX2_clock_15 : decode cX2_clock 15 = .ok (.aaload, 1) := by decide +kernel
theorem dX2_clock_16 : decode cX2_clock 16 = .ok (.getfield 73, 3) := by decide +kernel
theorem dX2_clock_19 : decode cX2_clock 19 = .ok (.iload_n 2, 1) := by decide +kernel
theorem dX2_clock_20 : decode cX2_clock 20 = .ok (.iaload, 1) := by decide +kernel
theorem dX2_clock_21 : decode cX2_clock 21 = .ok (.ireturn, 1) := by decide +kernel
theorem dX2_stamp_0 : decode cX2_stamp 0 = .ok (.aload_n 0, 1) := by decide +kernel
theorem dX2_stamp_1 : decode cX2_stamp 1 = .ok (.iload_n 1, 1) := by decide +kernel
theorem dX2_stamp_2 : decode cX2_stamp 2 = .ok (.iload_n 2, 1) := by decide +kernel
theorem dX2_stamp_3 : decode cX2_stamp 3 = .ok (.invokevirtual 93, 3) := by decide +kernel
theorem dX2_stamp_6 : decode cX2_stamp 6 = .ok (.aload_n 0, 1) := by decide +kernel
theorem dX2_stamp_7 : decode cX2_stamp 7 = .ok (.getfield 21, 3) := by decide +kernel
theorem dX2_stamp_10 : decode cX2_stamp 10 = .ok (.iload_n 1, 1) := by decide +kernel
theorem dX2_stamp_11 : decode cX2_stamp 11 = .ok (.invokevirtual 97, 3) := by decide +kernel
theorem dX2_stamp_14 : decode cX2_stamp 14 = .ok (.checkcast 53, 3) := by decide +kernel
theorem dX2_stamp_17 : decode cX2_stamp 17 = .ok (.getfield 77, 3) := by decide +kernel
theorem dX2_stamp_20 : decode cX2_stamp 20 = .ok (.iload_n 2, 1) := by decide +kernel
theorem dX2_stamp_21 : decode cX2_stamp 21 = .ok (.iaload, 1) := by decide +kernel
theorem dX2_stamp_22 : decode cX2_stamp 22 = .ok (.ireturn, 1) := by decide +kernel
theorem dX2_precedes_0 : decode cX2_precedes 0 = .ok (.aload_n 0, 1) := by decide +kernel
theorem dX2_precedes_1 : decode cX2_precedes 1 = .ok (.iload_n 1, 1) := by decide +kernel
theorem dX2_precedes_2 : decode cX2_precedes 2 = .ok (.invokevirtual 114, 3) := by decide +kernel
theorem dX2_precedes_5 : decode cX2_precedes 5 = .ok (.aload_n 0, 1) := by decide +kernel
theorem dX2_precedes_6 : decode cX2_precedes 6 = .ok (.iload_n 2, 1) := by decide +kernel
theorem dX2_precedes_7 : decode cX2_precedes 7 = .ok (.invokevirtual 114, 3) := by decide +kernel
theorem dX2_precedes_10 : decode cX2_precedes 10 = .ok (.aload_n 0, 1) := by decide +kernel
theorem dX2_precedes_11 : decode cX2_precedes 11 = .ok (.getfield 21, 3) := by decide +kernel
theorem dX2_precedes_14 : decode cX2_precedes 14 = .ok (.iload_n 1, 1) := by decide +kernel
theorem dX2_precedes_15 : decode cX2_precedes 15 = .ok (.invokevirtual 97, 3) := by decide +kernel
theorem dX2_precedes_18 : decode cX2_precedes 18 = .ok (.checkcast 53, 3) := by decide +kernel
theorem dX2_precedes_21 : decode cX2_precedes 21 = .ok (.aload_n 0, 1) := by decide +kernel
theorem dX2_precedes_22 : decode cX2_precedes 22 = .ok (.getfield 21, 3) := by decide +kernel
theorem dX2_precedes_25 : decode cX2_precedes 25 = .ok (.iload_n 2, 1) := by decide +kernel
theorem dX2_precedes_26 : decode cX2_precedes 26 = .ok (.invokevirtual 97, 3) := by decide +kernel
theorem dX2_precedes_29 : decode cX2_precedes 29 = .ok (.checkcast 53, 3) := by decide +kernel
theorem dX2_precedes_32 : decode cX2_precedes 32 = .ok (.invokevirtual 120, 3) := by decide +kernel
theorem dX2_precedes_35 : decode cX2_precedes 35 = .ok (.ireturn, 1) := by decide +kernel
theorem dX2_precedesByHistory_0 : decode cX2_precedesByHistory 0 = .ok (.aload_n 0, 1) := by decide +kernel
theorem dX2_precedesByHistory_1 : decode cX2_precedesByHistory 1 = .ok (.iload_n 1, 1) := by decide +kernel
theorem dX2_precedesByHistory_2 : decode cX2_precedesByHistory 2 = .ok (.invokevirtual 114, 3) := by decide +kernel
theorem dX2_precedesByHistory_5 : decode cX2_precedesByHistory 5 = .ok (.aload_n 0, 1) := by decide +kernel
theorem dX2_precedesByHistory_6 : decode cX2_precedesByHistory 6 = .ok (.iload_n 2, 1) := by decide +kernel
theorem dX2_precedesByHistory_7 : decode cX2_precedesByHistory 7 = .ok (.invokevirtual 114, 3) := by decide +kernel
theorem dX2_precedesByHistory_10 : decode cX2_precedesByHistory 10 = .ok (.aload_n 0, 1) := by decide +kernel
theorem dX2_precedesByHistory_11 : decode cX2_precedesByHistory 11 = .ok (.getfield 21, 3) := by decide +kernel
theorem dX2_precedesByHistory_14 : decode cX2_precedesByHistory 14 = .ok (.iload_n 1, 1) := by decide +kernel
theorem dX2_precedesByHistory_15 : decode cX2_precedesByHistory 15 = .ok (.invokevirtual 97, 3) := by decide +kernel
theorem dX2_precedesByHistory_18 : decode cX2_precedesByHistory 18 = .ok (.checkcast 53, 3) := by decide +kernel
theorem dX2_precedesByHistory_21 : decode cX2_precedesByHistory 21 = .ok (.aload_n 0, 1) := by decide +kernel
theorem dX2_precedesByHistory_22 : decode cX2_precedesByHistory 22 = .ok (.getfield 21, 3) := by decide +kernel
theorem dX2_precedesByHistory_25 : decode cX2_precedesByHistory 25 = .ok (.iload_n 2, 1) := by decide +kernel
theorem dX2_precedesByHistory_26 : decode cX2_precedesByHistory 26 = .ok (.invokevirtual 97, 3) := by decide +kernel
theorem dX2_precedesByHistory_29 : decode cX2_precedesByHistory 29 = .ok (.checkcast 53, 3) := by decide +kernel
theorem dX2_precedesByHistory_32 : decode cX2_precedesByHistory 32 = .ok (.invokevirtual 124, 3) := by decide +kernel
theorem dX2_precedesByHistory_35 : decode cX2_precedesByHistory 35 = .ok (.ireturn, 1) := by decide +kernel
theorem dX2_areConcurrent_0 : decode cX2_areConcurrent 0 = .ok (.aload_n 0, 1) := by decide +kernel
theorem dX2_areConcurrent_1 : decode cX2_areConcurrent 1 = .ok (.iload_n 1, 1) := by decide +kernel
theorem dX2_areConcurrent_2 : decode cX2_areConcurrent 2 = .ok (.invokevirtual 114, 3) := by decide +kernel
theorem dX2_areConcurrent_5 : decode cX2_areConcurrent 5 = .ok (.aload_n 0, 1) := by decide +kernel
theorem dX2_areConcurrent_6 : decode cX2_areConcurrent 6 = .ok (.iload_n 2, 1) := by decide +kernel
theorem dX2_areConcurrent_7 : decode cX2_areConcurrent 7 = .ok (.invokevirtual 114, 3) := by decide +kernel
theorem dX2_areConcurrent_10 : decode cX2_areConcurrent 10 = .ok (.aload_n 0, 1) := by decide +kernel
theorem dX2_areConcurrent_11 : decode cX2_areConcurrent 11 = .ok (.getfield 21, 3) := by decide +kernel
theorem dX2_areConcurrent_14 : decode cX2_areConcurrent 14 = .ok (.iload_n 1, 1) := by decide +kernel
theorem dX2_areConcurrent_15 : decode cX2_areConcurrent 15 = .ok (.invokevirtual 97, 3) := by decide +kernel
theorem dX2_areConcurrent_18 : decode cX2_areConcurrent 18 = .ok (.checkcast 53, 3) := by decide +kernel
theorem dX2_areConcurrent_21 : decode cX2_areConcurrent 21 = .ok (.astore_n 3, 1) := by decide +kernel
theorem dX2_areConcurrent_22 : decode cX2_areConcurrent 22 = .ok (.aload_n 0, 1) := by decide +kernel
theorem dX2_areConcurrent_23 : decode cX2_areConcurrent 23 = .ok (.getfield 21, 3) := by decide +kernel
theorem dX2_areConcurrent_26 : decode cX2_areConcurrent 26 = .ok (.iload_n 2, 1) := by decide +kernel
theorem dX2_areConcurrent_27 : decode cX2_areConcurrent 27 = .ok (.invokevirtual 97, 3) := by decide +kernel
theorem dX2_areConcurrent_30 : decode cX2_areConcurrent 30 = .ok (.checkcast 53, 3) := by decide +kernel
theorem dX2_areConcurrent_33 : decode cX2_areConcurrent 33 = .ok (.astore 4, 2) := by decide +kernel
theorem dX2_areConcurrent_35 : decode cX2_areConcurrent 35 = .ok (.aload_n 3, 1) := by decide +kernel
theorem dX2_areConcurrent_36 : decode cX2_areConcurrent 36 = .ok (.aload 4, 2) := by decide +kernel
theorem dX2_areConcurrent_38 : decode cX2_areConcurrent 38 = .ok (.if_acmp .eq 25, 3) := by decide +kernel
theorem dX2_areConcurrent_41 : decode cX2_areConcurrent 41 = .ok (.aload_n 3, 1) := by decide +kernel
theorem dX2_areConcurrent_42 : decode cX2_areConcurrent 42 = .ok (.aload 4, 2) := by decide +kernel
theorem dX2_areConcurrent_44 : decode cX2_areConcurrent 44 = .ok (.invokevirtual 120, 3) := by decide +kernel
theorem dX2_areConcurrent_47 : decode cX2_areConcurrent 47 = .ok (.ifCond .ne 16, 3) := by decide +kernel
theorem dX2_areConcurrent_50 : decode cX2_areConcurrent 50 = .ok (.aload 4, 2) := by decide +kernel
theorem dX2_areConcurrent_52 : decode cX2_areConcurrent 52 = .ok (.aload_n 3, 1) := by decide +kernel
theorem dX2_areConcurrent_53 : decode cX2_areConcurrent 53 = .ok (.invokevirtual 120, 3) := by decide +kernel
theorem dX2_areConcurrent_56 : decode cX2_areConcurrent 56 = .ok (.ifCond .ne 7, 3) := by decide +kernel
theorem dX2_areConcurrent_59 : decode cX2_areConcurrent 59 = .ok (.iconst 1, 1) := by decide +kernel
theorem dX2_areConcurrent_60 : decode cX2_areConcurrent 60 = .ok (.goto 4, 3) := by decide +kernel
theorem dX2_areConcurrent_63 : decode cX2_areConcurrent 63 = .ok (.iconst 0, 1) := by decide +kernel
theorem dX2_areConcurrent_64 : decode cX2_areConcurrent 64 = .ok (.ireturn, 1) := by decide +kernel
theorem dX2_delivered_0 : decode cX2_delivered 0 = .ok (.aload_n 0, 1) := by decide +kernel
theorem dX2_delivered_1 : decode cX2_delivered 1 = .ok (.iload_n 1, 1) := by decide +kernel
theorem dX2_delivered_2 : decode cX2_delivered 2 = .ok (.invokevirtual 31, 3) := by decide +kernel
theorem dX2_delivered_5 : decode cX2_delivered 5 = .ok (.aload_n 0, 1) := by decide +kernel
theorem dX2_delivered_6 : decode cX2_delivered 6 = .ok (.getfield 11, 3) := by decide +kernel
theorem dX2_delivered_9 : decode cX2_delivered 9 = .ok (.iload_n 1, 1) := by decide +kernel
theorem dX2_delivered_10 : decode cX2_delivered 10 = .ok (.aaload, 1) := by decide +kernel
theorem dX2_delivered_11 : decode cX2_delivered 11 = .ok (.getfield 55, 3) := by decide +kernel
theorem dX2_delivered_14 : decode cX2_delivered 14 = .ok (.invokevirtual 42, 3) := by decide +kernel
theorem dX2_delivered_17 : decode cX2_delivered 17 = .ok (.ireturn, 1) := by decide +kernel
theorem dX2_deliveredAt_0 : decode cX2_deliveredAt 0 = .ok (.aload_n 0, 1) := by decide +kernel
theorem dX2_deliveredAt_1 : decode cX2_deliveredAt 1 = .ok (.iload_n 1, 1) := by decide +kernel
theorem dX2_deliveredAt_2 : decode cX2_deliveredAt 2 = .ok (.invokevirtual 31, 3) := by decide +kernel
theorem dX2_deliveredAt_5 : decode cX2_deliveredAt 5 = .ok (.aload_n 0, 1) := by decide +kernel
theorem dX2_deliveredAt_6 : decode cX2_deliveredAt 6 = .ok (.aload_n 0, 1) := by decide +kernel
theorem dX2_deliveredAt_7 : decode cX2_deliveredAt 7 = .ok (.getfield 11, 3) := by decide +kernel
theorem dX2_deliveredAt_10 : decode cX2_deliveredAt 10 = .ok (.iload_n 1, 1) := by decide +kernel
theorem dX2_deliveredAt_11 : decode cX2_deliveredAt 11 = .ok (.aaload, 1) := by decide +kernel
theorem dX2_deliveredAt_12 : decode cX2_deliveredAt 12 = .ok (.getfield 55, 3) := by decide +kernel
theorem dX2_deliveredAt_15 : decode cX2_deliveredAt 15 = .ok (.iload_n 2, 1) := by decide +kernel
theorem dX2_deliveredAt_16 : decode cX2_deliveredAt 16 = .ok (.invokevirtual 127, 3) := by decide +kernel
theorem dX2_deliveredAt_19 : decode cX2_deliveredAt 19 = .ok (.aload_n 0, 1) := by decide +kernel
theorem dX2_deliveredAt_20 : decode cX2_deliveredAt 20 = .ok (.getfield 11, 3) := by decide +kernel
theorem dX2_deliveredAt_23 : decode cX2_deliveredAt 23 = .ok (.iload_n 1, 1) := by decide +kernel
theorem dX2_deliveredAt_24 : decode cX2_deliveredAt 24 = .ok (.aaload, 1) := by decide +kernel
theorem dX2_deliveredAt_25 : decode cX2_deliveredAt 25 = .ok (.getfield 55, 3) := by decide +kernel
theorem dX2_deliveredAt_28 : decode cX2_deliveredAt 28 = .ok (.iload_n 2, 1) := by decide +kernel
theorem dX2_deliveredAt_29 : decode cX2_deliveredAt 29 = .ok (.invokevirtual 97, 3) := by decide +kernel
theorem dX2_deliveredAt_32 : decode cX2_deliveredAt 32 = .ok (.checkcast 53, 3) := by decide +kernel
theorem dX2_deliveredAt_35 : decode cX2_deliveredAt 35 = .ok (.getfield 89, 3) := by decide +kernel
theorem dX2_deliveredAt_38 : decode cX2_deliveredAt 38 = .ok (.ireturn, 1) := by decide +kernel
theorem dX2_waiting_0 : decode cX2_waiting 0 = .ok (.aload_n 0, 1) := by decide +kernel
theorem dX2_waiting_1 : decode cX2_waiting 1 = .ok (.iload_n 1, 1) := by decide +kernel
theorem dX2_waiting_2 : decode cX2_waiting 2 = .ok (.invokevirtual 31, 3) := by decide +kernel
theorem dX2_waiting_5 : decode cX2_waiting 5 = .ok (.aload_n 0, 1) := by decide +kernel
theorem dX2_waiting_6 : decode cX2_waiting 6 = .ok (.getfield 11, 3) := by decide +kernel
theorem dX2_waiting_9 : decode cX2_waiting 9 = .ok (.iload_n 1, 1) := by decide +kernel
theorem dX2_waiting_10 : decode cX2_waiting 10 = .ok (.aaload, 1) := by decide +kernel
theorem dX2_waiting_11 : decode cX2_waiting 11 = .ok (.getfield 131, 3) := by decide +kernel
theorem dX2_waiting_14 : decode cX2_waiting 14 = .ok (.invokevirtual 42, 3) := by decide +kernel
theorem dX2_waiting_17 : decode cX2_waiting 17 = .ok (.ireturn, 1) := by decide +kernel
theorem dX2_waitingAt_0 : decode cX2_waitingAt 0 = .ok (.aload_n 0, 1) := by decide +kernel
theorem dX2_waitingAt_1 : decode cX2_waitingAt 1 = .ok (.iload_n 1, 1) := by decide +kernel
theorem dX2_waitingAt_2 : decode cX2_waitingAt 2 = .ok (.invokevirtual 31, 3) := by decide +kernel
theorem dX2_waitingAt_5 : decode cX2_waitingAt 5 = .ok (.aload_n 0, 1) := by decide +kernel
theorem dX2_waitingAt_6 : decode cX2_waitingAt 6 = .ok (.aload_n 0, 1) := by decide +kernel
theorem dX2_waitingAt_7 : decode cX2_waitingAt 7 = .ok (.getfield 11, 3) := by decide +kernel
theorem dX2_waitingAt_10 : decode cX2_waitingAt 10 = .ok (.iload_n 1, 1) := by decide +kernel
theorem dX2_waitingAt_11 : decode cX2_waitingAt 11 = .ok (.aaload, 1) := by decide +kernel
theorem dX2_waitingAt_12 : decode cX2_waitingAt 12 = .ok (.getfield 131, 3) := by decide +kernel
theorem dX2_waitingAt_15 : decode cX2_waitingAt 15 = .ok (.iload_n 2, 1) := by decide +kernel
theorem dX2_waitingAt_16 : decode cX2_waitingAt 16 = .ok (.invokevirtual 127, 3) := by decide +kernel
theorem dX2_waitingAt_19 : decode cX2_waitingAt 19 = .ok (.aload_n 0, 1) := by decide +kernel
theorem dX2_waitingAt_20 : decode cX2_waitingAt 20 = .ok (.getfield 11, 3) := by decide +kernel
theorem dX2_waitingAt_23 : decode cX2_waitingAt 23 = .ok (.iload_n 1, 1) := by decide +kernel
theorem dX2_waitingAt_24 : decode cX2_waitingAt 24 = .ok (.aaload, 1) := by decide +kernel
theorem dX2_waitingAt_25 : decode cX2_waitingAt 25 = .ok (.getfield 131, 3) := by decide +kernel
theorem dX2_waitingAt_28 : decode cX2_waitingAt 28 = .ok (.iload_n 2, 1) := by decide +kernel
theorem dX2_waitingAt_29 : decode cX2_waitingAt 29 = .ok (.invokevirtual 97, 3) := by decide +kernel
theorem dX2_waitingAt_32 : decode cX2_waitingAt 32 = .ok (.checkcast 53, 3) := by decide +kernel
theorem dX2_waitingAt_35 : decode cX2_waitingAt 35 = .ok (.getfield 89, 3) := by decide +kernel
theorem dX2_waitingAt_38 : decode cX2_waitingAt 38 = .ok (.ireturn, 1) := by decide +kernel
theorem dX2_needs_0 : decode cX2_needs 0 = .ok (.aload_n 0, 1) := by decide +kernel
theorem dX2_needs_1 : decode cX2_needs 1 = .ok (.iload_n 1, 1) := by decide +kernel
theorem dX2_needs_2 : decode cX2_needs 2 = .ok (.iload_n 2, 1) := by decide +kernel
theorem dX2_needs_3 : decode cX2_needs 3 = .ok (.invokevirtual 93, 3) := by decide +kernel
theorem dX2_needs_6 : decode cX2_needs 6 = .ok (.iconst 0, 1) := by decide +kernel
theorem dX2_needs_7 : decode cX2_needs 7 = .ok (.istore_n 3, 1) := by decide +kernel
theorem dX2_needs_8 : decode cX2_needs 8 = .ok (.iconst 0, 1) := by decide +kernel
theorem dX2_needs_9 : decode cX2_needs 9 = .ok (.istore 4, 2) := by decide +kernel
theorem dX2_needs_11 : decode cX2_needs 11 = .ok (.iload 4, 2) := by decide +kernel
theorem dX2_needs_13 : decode cX2_needs 13 = .ok (.iload_n 1, 1) := by decide +kernel
theorem dX2_needs_14 : decode cX2_needs 14 = .ok (.if_icmp .ge 23, 3) := by decide +kernel
theorem dX2_needs_17 : decode cX2_needs 17 = .ok (.aload_n 0, 1) := by decide +kernel
theorem dX2_needs_18 : decode cX2_needs 18 = .ok (.iload 4, 2) := by decide +kernel
theorem dX2_needs_20 : decode cX2_needs 20 = .ok (.iload_n 1, 1) := by decide +kernel
theorem dX2_needs_21 : decode cX2_needs 21 = .ok (.iload_n 2, 1) := by decide +kernel
theorem dX2_needs_22 : decode cX2_needs 22 = .ok (.invokevirtual 134, 3) := by decide +kernel
theorem dX2_needs_25 : decode cX2_needs 25 = .ok (.ifCond .eq 6, 3) := by decide +kernel
theorem dX2_needs_28 : decode cX2_needs 28 = .ok (.iinc 3 1, 3) := by decide +kernel
theorem dX2_needs_31 : decode cX2_needs 31 = .ok (.iinc 4 1, 3) := by decide +kernel
theorem dX2_needs_34 : decode cX2_needs 34 = .ok (.goto (-23), 3) := by decide +kernel
theorem dX2_needs_37 : decode cX2_needs 37 = .ok (.iload_n 3, 1) := by decide +kernel
theorem dX2_needs_38 : decode cX2_needs 38 = .ok (.ireturn, 1) := by decide +kernel
theorem dX2_firstNeeded_0 : decode cX2_firstNeeded 0 = .ok (.aload_n 0, 1) := by decide +kernel
theorem dX2_firstNeeded_1 : decode cX2_firstNeeded 1 = .ok (.iload_n 1, 1) := by decide +kernel
theorem dX2_firstNeeded_2 : decode cX2_firstNeeded 2 = .ok (.iload_n 2, 1) := by decide +kernel
theorem dX2_firstNeeded_3 : decode cX2_firstNeeded 3 = .ok (.invokevirtual 93, 3) := by decide +kernel
theorem dX2_firstNeeded_6 : decode cX2_firstNeeded 6 = .ok (.iconst 0, 1) := by decide +kernel
theorem dX2_firstNeeded_7 : decode cX2_firstNeeded 7 = .ok (.istore_n 3, 1) := by decide +kernel
theorem dX2_firstNeeded_8 : decode cX2_firstNeeded 8 = .ok (.iload_n 3, 1) := by decide +kernel
theorem dX2_firstNeeded_9 : decode cX2_firstNeeded 9 = .ok (.iload_n 1, 1) := by decide +kernel
theorem dX2_firstNeeded_10 : decode cX2_firstNeeded 10 = .ok (.if_icmp .ge 21, 3) := by decide +kernel
theorem dX2_firstNeeded_13 : decode cX2_firstNeeded 13 = .ok (.aload_n 0, 1) := by decide +kernel
theorem dX2_firstNeeded_14 : decode cX2_firstNeeded 14 = .ok (.iload_n 3, 1) := by decide +kernel
theorem dX2_firstNeeded_15 : decode cX2_firstNeeded 15 = .ok (.iload_n 1, 1) := by decide +kernel
theorem dX2_firstNeeded_16 : decode cX2_firstNeeded 16 = .ok (.iload_n 2, 1) := by decide +kernel
theorem dX2_firstNeeded_17 : decode cX2_firstNeeded 17 = .ok (.invokevirtual 134, 3) := by decide +kernel
theorem dX2_firstNeeded_20 : decode cX2_firstNeeded 20 = .ok (.ifCond .eq 5, 3) := by decide +kernel
theorem dX2_firstNeeded_23 : decode cX2_firstNeeded 23 = .ok (.iload_n 3, 1) := by decide +kernel
theorem dX2_firstNeeded_24 : decode cX2_firstNeeded 24 = .ok (.ireturn, 1) := by decide +kernel
theorem dX2_firstNeeded_25 : decode cX2_firstNeeded 25 = .ok (.iinc 3 1, 3) := by decide +kernel
theorem dX2_firstNeeded_28 : decode cX2_firstNeeded 28 = .ok (.goto (-20), 3) := by decide +kernel
theorem dX2_firstNeeded_31 : decode cX2_firstNeeded 31 = .ok (.iconst (-1), 1) := by decide +kernel
theorem dX2_firstNeeded_32 : decode cX2_firstNeeded 32 = .ok (.ireturn, 1) := by decide +kernel
theorem dX2_holder_0 : decode cX2_holder 0 = .ok (.aload_n 0, 1) := by decide +kernel
theorem dX2_holder_1 : decode cX2_holder 1 = .ok (.getfield 138, 3) := by decide +kernel
theorem dX2_holder_4 : decode cX2_holder 4 = .ok (.ireturn, 1) := by decide +kernel
theorem dX2_passToken_0 : decode cX2_passToken 0 = .ok (.aload_n 0, 1) := by decide +kernel
theorem dX2_passToken_1 : decode cX2_passToken 1 = .ok (.iload_n 1, 1) := by decide +kernel
theorem dX2_passToken_2 : decode cX2_passToken 2 = .ok (.invokevirtual 31, 3) := by decide +kernel
theorem dX2_passToken_5 : decode cX2_passToken 5 = .ok (.aload_n 0, 1) := by decide +kernel
theorem dX2_passToken_6 : decode cX2_passToken 6 = .ok (.getfield 11, 3) := by decide +kernel
theorem dX2_passToken_9 : decode cX2_passToken 9 = .ok (.iload_n 1, 1) := by decide +kernel
theorem dX2_passToken_10 : decode cX2_passToken 10 = .ok (.aaload, 1) := by decide +kernel
theorem dX2_passToken_11 : decode cX2_passToken 11 = .ok (.getfield 34, 3) := by decide +kernel
theorem dX2_passToken_14 : decode cX2_passToken 14 = .ok (.ifCond .eq 18, 3) := by decide +kernel
theorem dX2_passToken_17 : decode cX2_passToken 17 = .ok (.aload_n 0, 1) := by decide +kernel
theorem dX2_passToken_18 : decode cX2_passToken 18 = .ok (.invokevirtual 38, 3) := by decide +kernel
theorem dX2_passToken_21 : decode cX2_passToken 21 = .ok (.ifCond .ne 11, 3) := by decide +kernel
theorem dX2_passToken_24 : decode cX2_passToken 24 = .ok (.aload_n 0, 1) := by decide +kernel
theorem dX2_passToken_25 : decode cX2_passToken 25 = .ok (.iload_n 1, 1) := by decide +kernel
theorem dX2_passToken_26 : decode cX2_passToken 26 = .ok (.invokevirtual 141, 3) := by decide +kernel
theorem dX2_passToken_29 : decode cX2_passToken 29 = .ok (.ifCond .ne 13, 3) := by decide +kernel
theorem dX2_passToken_32 : decode cX2_passToken 32 = .ok (.new 46, 3) := by decide +kernel
theorem dX2_passToken_35 : decode cX2_passToken 35 = .ok (.dup, 1) := by decide +kernel
theorem dX2_passToken_36 : decode cX2_passToken 36 = .ok (.ldc 145, 2) := by decide +kernel
theorem dX2_passToken_38 : decode cX2_passToken 38 = .ok (.invokespecial 50, 3) := by decide +kernel
theorem dX2_passToken_41 : decode cX2_passToken 41 = .ok (.athrow, 1) := by decide +kernel
theorem dX2_passToken_42 : decode cX2_passToken 42 = .ok (.aload_n 0, 1) := by decide +kernel
theorem dX2_passToken_43 : decode cX2_passToken 43 = .ok (.aload_n 0, 1) := by decide +kernel
theorem dX2_passToken_44 : decode cX2_passToken 44 = .ok (.getfield 11, 3) := by decide +kernel
theorem dX2_passToken_47 : decode cX2_passToken 47 = .ok (.iload_n 1, 1) := by decide +kernel
theorem dX2_passToken_48 : decode cX2_passToken 48 = .ok (.aaload, 1) := by decide +kernel
theorem dX2_passToken_49 : decode cX2_passToken 49 = .ok (.invokevirtual 147, 3) := by decide +kernel
theorem dX2_passToken_52 : decode cX2_passToken 52 = .ok (.ireturn, 1) := by decide +kernel
theorem dX2_tell_0 : decode cX2_tell 0 = .ok (.aload_n 0, 1) := by decide +kernel
theorem dX2_tell_1 : decode cX2_tell 1 = .ok (.iload_n 1, 1) := by decide +kernel
theorem dX2_tell_2 : decode cX2_tell 2 = .ok (.invokevirtual 31, 3) := by decide +kernel
theorem dX2_tell_5 : decode cX2_tell 5 = .ok (.aload_n 0, 1) := by decide +kernel
theorem dX2_tell_6 : decode cX2_tell 6 = .ok (.getfield 11, 3) := by decide +kernel
theorem dX2_tell_9 : decode cX2_tell 9 = .ok (.iload_n 1, 1) := by decide +kernel
theorem dX2_tell_10 : decode cX2_tell 10 = .ok (.aaload, 1) := by decide +kernel
theorem dX2_tell_11 : decode cX2_tell 11 = .ok (.getfield 34, 3) := by decide +kernel
theorem dX2_tell_14 : decode cX2_tell 14 = .ok (.ifCond .ne 13, 3) := by decide +kernel
theorem dX2_tell_17 : decode cX2_tell 17 = .ok (.new 46, 3) := by decide +kernel
theorem dX2_tell_20 : decode cX2_tell 20 = .ok (.dup, 1) := by decide +kernel
theorem dX2_tell_21 : decode cX2_tell 21 = .ok (.ldc 151, 2) := by decide +kernel
theorem dX2_tell_23 : decode cX2_tell 23 = .ok (.invokespecial 50, 3) := by decide +kernel
theorem dX2_tell_26 : decode cX2_tell 26 = .ok (.athrow, 1) := by decide +kernel
theorem dX2_tell_27 : decode cX2_tell 27 = .ok (.aload_n 0, 1) := by decide +kernel
theorem dX2_tell_28 : decode cX2_tell 28 = .ok (.getfield 25, 3) := by decide +kernel
theorem dX2_tell_31 : decode cX2_tell 31 = .ok (.invokevirtual 42, 3) := by decide +kernel
theorem dX2_tell_34 : decode cX2_tell 34 = .ok (.aload_n 0, 1) := by decide +kernel
theorem dX2_tell_35 : decode cX2_tell 35 = .ok (.getfield 11, 3) := by decide +kernel
theorem dX2_tell_38 : decode cX2_tell 38 = .ok (.iload_n 1, 1) := by decide +kernel
theorem dX2_tell_39 : decode cX2_tell 39 = .ok (.aaload, 1) := by decide +kernel
theorem dX2_tell_40 : decode cX2_tell 40 = .ok (.getfield 153, 3) := by decide +kernel
theorem dX2_tell_43 : decode cX2_tell 43 = .ok (.isub, 1) := by decide +kernel
theorem dX2_tell_44 : decode cX2_tell 44 = .ok (.istore_n 2, 1) := by decide +kernel
theorem dX2_tell_45 : decode cX2_tell 45 = .ok (.aload_n 0, 1) := by decide +kernel
theorem dX2_tell_46 : decode cX2_tell 46 = .ok (.getfield 11, 3) := by decide +kernel
theorem dX2_tell_49 : decode cX2_tell 49 = .ok (.iload_n 1, 1) := by decide +kernel
theorem dX2_tell_50 : decode cX2_tell 50 = .ok (.aaload, 1) := by decide +kernel
theorem dX2_tell_51 : decode cX2_tell 51 = .ok (.aload_n 0, 1) := by decide +kernel
theorem dX2_tell_52 : decode cX2_tell 52 = .ok (.getfield 25, 3) := by decide +kernel
theorem dX2_tell_55 : decode cX2_tell 55 = .ok (.invokevirtual 42, 3) := by decide +kernel
theorem dX2_tell_58 : decode cX2_tell 58 = .ok (.putfield 153, 3) := by decide +kernel
theorem dX2_tell_61 : decode cX2_tell 61 = .ok (.iload_n 2, 1) := by decide +kernel
theorem dX2_tell_62 : decode cX2_tell 62 = .ok (.ireturn, 1) := by decide +kernel
theorem dX2_numbered_0 : decode cX2_numbered 0 = .ok (.aload_n 0, 1) := by decide +kernel
theorem dX2_numbered_1 : decode cX2_numbered 1 = .ok (.getfield 25, 3) := by decide +kernel
theorem dX2_numbered_4 : decode cX2_numbered 4 = .ok (.invokevirtual 42, 3) := by decide +kernel
theorem dX2_numbered_7 : decode cX2_numbered 7 = .ok (.ireturn, 1) := by decide +kernel
theorem dX2_numberOf_0 : decode cX2_numberOf 0 = .ok (.aload_n 0, 1) := by decide +kernel
theorem dX2_numberOf_1 : decode cX2_numberOf 1 = .ok (.iload_n 1, 1) := by decide +kernel
theorem dX2_numberOf_2 : decode cX2_numberOf 2 = .ok (.invokevirtual 114, 3) := by decide +kernel
theorem dX2_numberOf_5 : decode cX2_numberOf 5 = .ok (.aload_n 0, 1) := by decide +kernel
theorem dX2_numberOf_6 : decode cX2_numberOf 6 = .ok (.getfield 21, 3) := by decide +kernel
theorem dX2_numberOf_9 : decode cX2_numberOf 9 = .ok (.iload_n 1, 1) := by decide +kernel
theorem dX2_numberOf_10 : decode cX2_numberOf 10 = .ok (.invokevirtual 97, 3) := by decide +kernel
theorem dX2_numberOf_13 : decode cX2_numberOf 13 = .ok (.checkcast 53, 3) := by decide +kernel
theorem dX2_numberOf_16 : decode cX2_numberOf 16 = .ok (.getfield 156, 3) := by decide +kernel
theorem dX2_numberOf_19 : decode cX2_numberOf 19 = .ok (.ireturn, 1) := by decide +kernel
theorem dX2_ordered_0 : decode cX2_ordered 0 = .ok (.aload_n 0, 1) := by decide +kernel
theorem dX2_ordered_1 : decode cX2_ordered 1 = .ok (.iload_n 1, 1) := by decide +kernel
theorem dX2_ordered_2 : decode cX2_ordered 2 = .ok (.invokevirtual 31, 3) := by decide +kernel
theorem dX2_ordered_5 : decode cX2_ordered 5 = .ok (.aload_n 0, 1) := by decide +kernel
theorem dX2_ordered_6 : decode cX2_ordered 6 = .ok (.getfield 11, 3) := by decide +kernel
theorem dX2_ordered_9 : decode cX2_ordered 9 = .ok (.iload_n 1, 1) := by decide +kernel
theorem dX2_ordered_10 : decode cX2_ordered 10 = .ok (.aaload, 1) := by decide +kernel
theorem dX2_ordered_11 : decode cX2_ordered 11 = .ok (.getfield 34, 3) := by decide +kernel
theorem dX2_ordered_14 : decode cX2_ordered 14 = .ok (.ifCond .eq 16, 3) := by decide +kernel
theorem dX2_ordered_17 : decode cX2_ordered 17 = .ok (.aload_n 0, 1) := by decide +kernel
theorem dX2_ordered_18 : decode cX2_ordered 18 = .ok (.aload_n 0, 1) := by decide +kernel
theorem dX2_ordered_19 : decode cX2_ordered 19 = .ok (.getfield 11, 3) := by decide +kernel
theorem dX2_ordered_22 : decode cX2_ordered 22 = .ok (.iload_n 1, 1) := by decide +kernel
theorem dX2_ordered_23 : decode cX2_ordered 23 = .ok (.aaload, 1) := by decide +kernel
theorem dX2_ordered_24 : decode cX2_ordered 24 = .ok (.invokevirtual 159, 3) := by decide +kernel
theorem dX2_ordered_27 : decode cX2_ordered 27 = .ok (.goto 12, 3) := by decide +kernel
theorem dX2_ordered_30 : decode cX2_ordered 30 = .ok (.aload_n 0, 1) := by decide +kernel
theorem dX2_ordered_31 : decode cX2_ordered 31 = .ok (.getfield 11, 3) := by decide +kernel
theorem dX2_ordered_34 : decode cX2_ordered 34 = .ok (.iload_n 1, 1) := by decide +kernel
theorem dX2_ordered_35 : decode cX2_ordered 35 = .ok (.aaload, 1) := by decide +kernel
theorem dX2_ordered_36 : decode cX2_ordered 36 = .ok (.getfield 162, 3) := by decide +kernel
theorem dX2_ordered_39 : decode cX2_ordered 39 = .ok (.ireturn, 1) := by decide +kernel
theorem dX2_proposal_0 : decode cX2_proposal 0 = .ok (.aload_n 0, 1) := by decide +kernel
theorem dX2_proposal_1 : decode cX2_proposal 1 = .ok (.iload_n 1, 1) := by decide +kernel
theorem dX2_proposal_2 : decode cX2_proposal 2 = .ok (.iload_n 2, 1) := by decide +kernel
theorem dX2_proposal_3 : decode cX2_proposal 3 = .ok (.invokevirtual 93, 3) := by decide +kernel
theorem dX2_proposal_6 : decode cX2_proposal 6 = .ok (.aload_n 0, 1) := by decide +kernel
theorem dX2_proposal_7 : decode cX2_proposal 7 = .ok (.getfield 21, 3) := by decide +kernel
theorem dX2_proposal_10 : decode cX2_proposal 10 = .ok (.iload_n 1, 1) := by decide +kernel
theorem dX2_proposal_11 : decode cX2_proposal 11 = .ok (.invokevirtual 97, 3) := by decide +kernel
theorem dX2_proposal_14 : decode cX2_proposal 14 = .ok (.checkcast 53, 3) := by decide +kernel
theorem dX2_proposal_17 : decode cX2_proposal 17 = .ok (.getfield 165, 3) := by decide +kernel
theorem dX2_proposal_20 : decode cX2_proposal 20 = .ok (.iload_n 2, 1) := by decide +kernel
theorem dX2_proposal_21 : decode cX2_proposal 21 = .ok (.iaload, 1) := by decide +kernel
theorem dX2_proposal_22 : decode cX2_proposal 22 = .ok (.ireturn, 1) := by decide +kernel
theorem dX2_agreed_0 : decode cX2_agreed 0 = .ok (.aload_n 0, 1) := by decide +kernel
theorem dX2_agreed_1 : decode cX2_agreed 1 = .ok (.iload_n 1, 1) := by decide +kernel
theorem dX2_agreed_2 : decode cX2_agreed 2 = .ok (.invokevirtual 114, 3) := by decide +kernel
theorem dX2_agreed_5 : decode cX2_agreed 5 = .ok (.aload_n 0, 1) := by decide +kernel
theorem dX2_agreed_6 : decode cX2_agreed 6 = .ok (.getfield 21, 3) := by decide +kernel
theorem dX2_agreed_9 : decode cX2_agreed 9 = .ok (.iload_n 1, 1) := by decide +kernel
theorem dX2_agreed_10 : decode cX2_agreed 10 = .ok (.invokevirtual 97, 3) := by decide +kernel
theorem dX2_agreed_13 : decode cX2_agreed 13 = .ok (.checkcast 53, 3) := by decide +kernel
theorem dX2_agreed_16 : decode cX2_agreed 16 = .ok (.getfield 168, 3) := by decide +kernel
theorem dX2_agreed_19 : decode cX2_agreed 19 = .ok (.ireturn, 1) := by decide +kernel
theorem dX2_agreedAt_0 : decode cX2_agreedAt 0 = .ok (.aload_n 0, 1) := by decide +kernel
theorem dX2_agreedAt_1 : decode cX2_agreedAt 1 = .ok (.aload_n 0, 1) := by decide +kernel
theorem dX2_agreedAt_2 : decode cX2_agreedAt 2 = .ok (.getfield 28, 3) := by decide +kernel
theorem dX2_agreedAt_5 : decode cX2_agreedAt 5 = .ok (.iload_n 1, 1) := by decide +kernel
theorem dX2_agreedAt_6 : decode cX2_agreedAt 6 = .ok (.invokevirtual 127, 3) := by decide +kernel
theorem dX2_agreedAt_9 : decode cX2_agreedAt 9 = .ok (.aload_n 0, 1) := by decide +kernel
theorem dX2_agreedAt_10 : decode cX2_agreedAt 10 = .ok (.getfield 28, 3) := by decide +kernel
theorem dX2_agreedAt_13 : decode cX2_agreedAt 13 = .ok (.iload_n 1, 1) := by decide +kernel
theorem dX2_agreedAt_14 : decode cX2_agreedAt 14 = .ok (.invokevirtual 97, 3) := by decide +kernel
theorem dX2_agreedAt_17 : decode cX2_agreedAt 17 = .ok (.checkcast 53, 3) := by decide +kernel
theorem dX2_agreedAt_20 : decode cX2_agreedAt 20 = .ok (.getfield 89, 3) := by decide +kernel
theorem dX2_agreedAt_23 : decode cX2_agreedAt 23 = .ok (.ireturn, 1) := by decide +kernel
theorem dX2_fail_0 : decode cX2_fail 0 = .ok (.aload_n 0, 1) := by decide +kernel
theorem dX2_fail_1 : decode cX2_fail 1 = .ok (.iload_n 1, 1) := by decide +kernel
theorem dX2_fail_2 : decode cX2_fail 2 = .ok (.invokevirtual 31, 3) := by decide +kernel
theorem dX2_fail_5 : decode cX2_fail 5 = .ok (.aload_n 0, 1) := by decide +kernel
theorem dX2_fail_6 : decode cX2_fail 6 = .ok (.getfield 11, 3) := by decide +kernel
theorem dX2_fail_9 : decode cX2_fail 9 = .ok (.iload_n 1, 1) := by decide +kernel
theorem dX2_fail_10 : decode cX2_fail 10 = .ok (.aaload, 1) := by decide +kernel
theorem dX2_fail_11 : decode cX2_fail 11 = .ok (.getfield 34, 3) := by decide +kernel
theorem dX2_fail_14 : decode cX2_fail 14 = .ok (.ifCond .eq 11, 3) := by decide +kernel
theorem dX2_fail_17 : decode cX2_fail 17 = .ok (.aload_n 0, 1) := by decide +kernel
theorem dX2_fail_18 : decode cX2_fail 18 = .ok (.invokevirtual 171, 3) := by decide +kernel
theorem dX2_fail_21 : decode cX2_fail 21 = .ok (.iconst 1, 1) := by decide +kernel
theorem dX2_fail_22 : decode cX2_fail 22 = .ok (.if_icmp .ne 13, 3) := by decide +kernel
theorem dX2_fail_25 : decode cX2_fail 25 = .ok (.new 46, 3) := by decide +kernel
theorem dX2_fail_28 : decode cX2_fail 28 = .ok (.dup, 1) := by decide +kernel
theorem dX2_fail_29 : decode cX2_fail 29 = .ok (.ldc 174, 2) := by decide +kernel
theorem dX2_fail_31 : decode cX2_fail 31 = .ok (.invokespecial 50, 3) := by decide +kernel
theorem dX2_fail_34 : decode cX2_fail 34 = .ok (.athrow, 1) := by decide +kernel
theorem dX2_fail_35 : decode cX2_fail 35 = .ok (.aload_n 0, 1) := by decide +kernel
theorem dX2_fail_36 : decode cX2_fail 36 = .ok (.getfield 11, 3) := by decide +kernel
theorem dX2_fail_39 : decode cX2_fail 39 = .ok (.iload_n 1, 1) := by decide +kernel
theorem dX2_fail_40 : decode cX2_fail 40 = .ok (.aaload, 1) := by decide +kernel
theorem dX2_fail_41 : decode cX2_fail 41 = .ok (.aload_n 0, 1) := by decide +kernel
theorem dX2_fail_42 : decode cX2_fail 42 = .ok (.aload_n 0, 1) := by decide +kernel
theorem dX2_fail_43 : decode cX2_fail 43 = .ok (.getfield 11, 3) := by decide +kernel
theorem dX2_fail_46 : decode cX2_fail 46 = .ok (.iload_n 1, 1) := by decide +kernel
theorem dX2_fail_47 : decode cX2_fail 47 = .ok (.aaload, 1) := by decide +kernel
theorem dX2_fail_48 : decode cX2_fail 48 = .ok (.invokevirtual 159, 3) := by decide +kernel
theorem dX2_fail_51 : decode cX2_fail 51 = .ok (.putfield 162, 3) := by decide +kernel
theorem dX2_fail_54 : decode cX2_fail 54 = .ok (.aload_n 0, 1) := by decide +kernel
theorem dX2_fail_55 : decode cX2_fail 55 = .ok (.getfield 11, 3) := by decide +kernel
theorem dX2_fail_58 : decode cX2_fail 58 = .ok (.iload_n 1, 1) := by decide +kernel
theorem dX2_fail_59 : decode cX2_fail 59 = .ok (.aaload, 1) := by decide +kernel
theorem dX2_fail_60 : decode cX2_fail 60 = .ok (.iconst 0, 1) := by decide +kernel
theorem dX2_fail_61 : decode cX2_fail 61 = .ok (.putfield 34, 3) := by decide +kernel
theorem dX2_fail_64 : decode cX2_fail 64 = .ok (.return_, 1) := by decide +kernel
theorem dX2_flush_0 : decode cX2_flush 0 = .ok (.aload_n 0, 1) := by decide +kernel
theorem dX2_flush_1 : decode cX2_flush 1 = .ok (.invokevirtual 38, 3) := by decide +kernel
theorem dX2_flush_4 : decode cX2_flush 4 = .ok (.ifCond .ne 13, 3) := by decide +kernel
theorem dX2_flush_7 : decode cX2_flush 7 = .ok (.new 46, 3) := by decide +kernel
theorem dX2_flush_10 : decode cX2_flush 10 = .ok (.dup, 1) := by decide +kernel
theorem dX2_flush_11 : decode cX2_flush 11 = .ok (.ldc 176, 2) := by decide +kernel
theorem dX2_flush_13 : decode cX2_flush 13 = .ok (.invokespecial 50, 3) := by decide +kernel
theorem dX2_flush_16 : decode cX2_flush 16 = .ok (.athrow, 1) := by decide +kernel
theorem dX2_flush_17 : decode cX2_flush 17 = .ok (.aload_n 0, 1) := by decide +kernel
theorem dX2_flush_18 : decode cX2_flush 18 = .ok (.invokevirtual 178, 3) := by decide +kernel
theorem dX2_flush_21 : decode cX2_flush 21 = .ok (.istore_n 1, 1) := by decide +kernel
theorem dX2_flush_22 : decode cX2_flush 22 = .ok (.aload_n 0, 1) := by decide +kernel
theorem dX2_flush_23 : decode cX2_flush 23 = .ok (.invokevirtual 181, 3) := by decide +kernel
theorem dX2_flush_26 : decode cX2_flush 26 = .ok (.aload_n 0, 1) := by decide +kernel
theorem dX2_flush_27 : decode cX2_flush 27 = .ok (.invokevirtual 184, 3) := by decide +kernel
theorem dX2_flush_30 : decode cX2_flush 30 = .ok (.aload_n 0, 1) := by decide +kernel
theorem dX2_flush_31 : decode cX2_flush 31 = .ok (.invokevirtual 187, 3) := by decide +kernel
theorem dX2_flush_34 : decode cX2_flush 34 = .ok (.iload_n 1, 1) := by decide +kernel
theorem dX2_flush_35 : decode cX2_flush 35 = .ok (.ireturn, 1) := by decide +kernel
theorem dX2_isAlive_0 : decode cX2_isAlive 0 = .ok (.aload_n 0, 1) := by decide +kernel
theorem dX2_isAlive_1 : decode cX2_isAlive 1 = .ok (.iload_n 1, 1) := by decide +kernel
theorem dX2_isAlive_2 : decode cX2_isAlive 2 = .ok (.invokevirtual 31, 3) := by decide +kernel
theorem dX2_isAlive_5 : decode cX2_isAlive 5 = .ok (.aload_n 0, 1) := by decide +kernel
theorem dX2_isAlive_6 : decode cX2_isAlive 6 = .ok (.getfield 11, 3) := by decide +kernel
theorem dX2_isAlive_9 : decode cX2_isAlive 9 = .ok (.iload_n 1, 1) := by decide +kernel
theorem dX2_isAlive_10 : decode cX2_isAlive 10 = .ok (.aaload, 1) := by decide +kernel
theorem dX2_isAlive_11 : decode cX2_isAlive 11 = .ok (.getfield 34, 3) := by decide +kernel
theorem dX2_isAlive_14 : decode cX2_isAlive 14 = .ok (.ireturn, 1) := by decide +kernel
theorem dX2_view_0 : decode cX2_view 0 = .ok (.aload_n 0, 1) := by decide +kernel
theorem dX2_view_1 : decode cX2_view 1 = .ok (.getfield 190, 3) := by decide +kernel
theorem dX2_view_4 : decode cX2_view 4 = .ok (.ireturn, 1) := by decide +kernel
theorem dX2_requireMember_0 : decode cX2_requireMember 0 = .ok (.iload_n 1, 1) := by decide +kernel
theorem dX2_requireMember_1 : decode cX2_requireMember 1 = .ok (.ifCond .lt 8, 3) := by decide +kernel
theorem dX2_requireMember_4 : decode cX2_requireMember 4 = .ok (.iload_n 1, 1) := by decide +kernel
theorem dX2_requireMember_5 : decode cX2_requireMember 5 = .ok (.iconst 4, 1) := by decide +kernel
theorem dX2_requireMember_6 : decode cX2_requireMember 6 = .ok (.if_icmp .lt 13, 3) := by decide +kernel
theorem dX2_requireMember_9 : decode cX2_requireMember 9 = .ok (.new 193, 3) := by decide +kernel
theorem dX2_requireMember_12 : decode cX2_requireMember 12 = .ok (.dup, 1) := by decide +kernel
theorem dX2_requireMember_13 : decode cX2_requireMember 13 = .ok (.ldc 195, 2) := by decide +kernel
theorem dX2_requireMember_15 : decode cX2_requireMember 15 = .ok (.invokespecial 197, 3) := by decide +kernel
theorem dX2_requireMember_18 : decode cX2_requireMember 18 = .ok (.athrow, 1) := by decide +kernel
theorem dX2_requireMember_19 : decode cX2_requireMember 19 = .ok (.return_, 1) := by decide +kernel
theorem dX2_requireMessage_0 : decode cX2_requireMessage 0 = .ok (.iload_n 1, 1) := by decide +kernel
theorem dX2_requireMessage_1 : decode cX2_requireMessage 1 = .ok (.ifCond .lt 14, 3) := by decide +kernel
theorem dX2_requireMessage_4 : decode cX2_requireMessage 4 = .ok (.iload_n 1, 1) := by decide +kernel
theorem dX2_requireMessage_5 : decode cX2_requireMessage 5 = .ok (.aload_n 0, 1) := by decide +kernel
theorem dX2_requireMessage_6 : decode cX2_requireMessage 6 = .ok (.getfield 21, 3) := by decide +kernel
theorem dX2_requireMessage_9 : decode cX2_requireMessage 9 = .ok (.invokevirtual 42, 3) := by decide +kernel
theorem dX2_requireMessage_12 : decode cX2_requireMessage 12 = .ok (.if_icmp .lt 13, 3) := by decide +kernel
theorem dX2_requireMessage_15 : decode cX2_requireMessage 15 = .ok (.new 193, 3) := by decide +kernel
theorem dX2_requireMessage_18 : decode cX2_requireMessage 18 = .ok (.dup, 1) := by decide +kernel
theorem dX2_requireMessage_19 : decode cX2_requireMessage 19 = .ok (.ldc 198, 2) := by decide +kernel
theorem dX2_requireMessage_21 : decode cX2_requireMessage 21 = .ok (.invokespecial 197, 3) := by decide +kernel
theorem dX2_requireMessage_24 : decode cX2_requireMessage 24 = .ok (.athrow, 1) := by decide +kernel
theorem dX2_requireMessage_25 : decode cX2_requireMessage 25 = .ok (.return_, 1) := by decide +kernel
theorem dX2_requireCopy_0 : decode cX2_requireCopy 0 = .ok (.aload_n 0, 1) := by decide +kernel
theorem dX2_requireCopy_1 : decode cX2_requireCopy 1 = .ok (.iload_n 1, 1) := by decide +kernel
theorem dX2_requireCopy_2 : decode cX2_requireCopy 2 = .ok (.invokevirtual 114, 3) := by decide +kernel
theorem dX2_requireCopy_5 : decode cX2_requireCopy 5 = .ok (.aload_n 0, 1) := by decide +kernel
theorem dX2_requireCopy_6 : decode cX2_requireCopy 6 = .ok (.iload_n 2, 1) := by decide +kernel
theorem dX2_requireCopy_7 : decode cX2_requireCopy 7 = .ok (.invokevirtual 31, 3) := by decide +kernel
theorem dX2_requireCopy_10 : decode cX2_requireCopy 10 = .ok (.return_, 1) := by decide +kernel
theorem dX2_requirePlace_0 : decode cX2_requirePlace 0 = .ok (.iload_n 2, 1) := by decide +kernel
theorem dX2_requirePlace_1 : decode cX2_requirePlace 1 = .ok (.ifCond .lt 11, 3) := by decide +kernel
theorem dX2_requirePlace_4 : decode cX2_requirePlace 4 = .ok (.iload_n 2, 1) := by decide +kernel
theorem dX2_requirePlace_5 : decode cX2_requirePlace 5 = .ok (.aload_n 1, 1) := by decide +kernel
theorem dX2_requirePlace_6 : decode cX2_requirePlace 6 = .ok (.invokevirtual 42, 3) := by decide +kernel
theorem dX2_requirePlace_9 : decode cX2_requirePlace 9 = .ok (.if_icmp .lt 13, 3) := by decide +kernel
theorem dX2_requirePlace_12 : decode cX2_requirePlace 12 = .ok (.new 193, 3) := by decide +kernel
theorem dX2_requirePlace_15 : decode cX2_requirePlace 15 = .ok (.dup, 1) := by decide +kernel
theorem dX2_requirePlace_16 : decode cX2_requirePlace 16 = .ok (.ldc 200, 2) := by decide +kernel
theorem dX2_requirePlace_18 : decode cX2_requirePlace 18 = .ok (.invokespecial 197, 3) := by decide +kernel
theorem dX2_requirePlace_21 : decode cX2_requirePlace 21 = .ok (.athrow, 1) := by decide +kernel
theorem dX2_requirePlace_22 : decode cX2_requirePlace 22 = .ok (.return_, 1) := by decide +kernel
theorem dX2_putOnWay_0 : decode cX2_putOnWay 0 = .ok (.iconst 0, 1) := by decide +kernel
theorem dX2_putOnWay_1 : decode cX2_putOnWay 1 = .ok (.istore_n 2, 1) := by decide +kernel
theorem dX2_putOnWay_2 : decode cX2_putOnWay 2 = .ok (.iload_n 2, 1) := by decide +kernel
theorem dX2_putOnWay_3 : decode cX2_putOnWay 3 = .ok (.iconst 4, 1) := by decide +kernel
theorem dX2_putOnWay_4 : decode cX2_putOnWay 4 = .ok (.if_icmp .ge 32, 3) := by decide +kernel
theorem dX2_putOnWay_7 : decode cX2_putOnWay 7 = .ok (.aload_n 1, 1) := by decide +kernel
theorem dX2_putOnWay_8 : decode cX2_putOnWay 8 = .ok (.getfield 101, 3) := by decide +kernel
theorem dX2_putOnWay_11 : decode cX2_putOnWay 11 = .ok (.iload_n 2, 1) := by decide +kernel
theorem dX2_putOnWay_12 : decode cX2_putOnWay 12 = .ok (.aload_n 0, 1) := by decide +kernel
theorem dX2_putOnWay_13 : decode cX2_putOnWay 13 = .ok (.getfield 11, 3) := by decide +kernel
theorem dX2_putOnWay_16 : decode cX2_putOnWay 16 = .ok (.iload_n 2, 1) := by decide +kernel
theorem dX2_putOnWay_17 : decode cX2_putOnWay 17 = .ok (.aaload, 1) := by decide +kernel
theorem dX2_putOnWay_18 : decode cX2_putOnWay 18 = .ok (.getfield 202, 3) := by decide +kernel
theorem dX2_putOnWay_21 : decode cX2_putOnWay 21 = .ok (.ifCond .eq 7, 3) := by decide +kernel
theorem dX2_putOnWay_24 : decode cX2_putOnWay 24 = .ok (.iconst 0, 1) := by decide +kernel
theorem dX2_putOnWay_25 : decode cX2_putOnWay 25 = .ok (.goto 4, 3) := by decide +kernel
theorem dX2_putOnWay_28 : decode cX2_putOnWay 28 = .ok (.iconst 3, 1) := by decide +kernel
theorem dX2_putOnWay_29 : decode cX2_putOnWay 29 = .ok (.iastore, 1) := by decide +kernel
theorem dX2_putOnWay_30 : decode cX2_putOnWay 30 = .ok (.iinc 2 1, 3) := by decide +kernel
theorem dX2_putOnWay_33 : decode cX2_putOnWay 33 = .ok (.goto (-31), 3) := by decide +kernel
theorem dX2_putOnWay_36 : decode cX2_putOnWay 36 = .ok (.return_, 1) := by decide +kernel
theorem dX2_takeIn_0 : decode cX2_takeIn 0 = .ok (.aload_n 2, 1) := by decide +kernel
theorem dX2_takeIn_1 : decode cX2_takeIn 1 = .ok (.aload_n 1, 1) := by decide +kernel
theorem dX2_takeIn_2 : decode cX2_takeIn 2 = .ok (.invokevirtual 205, 3) := by decide +kernel
theorem dX2_takeIn_5 : decode cX2_takeIn 5 = .ok (.ifCond .ne 24, 3) := by decide +kernel
theorem dX2_takeIn_8 : decode cX2_takeIn 8 = .ok (.aload_n 1, 1) := by decide +kernel
theorem dX2_takeIn_9 : decode cX2_takeIn 9 = .ok (.getfield 101, 3) := by decide +kernel
theorem dX2_takeIn_12 : decode cX2_takeIn 12 = .ok (.aload_n 2, 1) := by decide +kernel
theorem dX2_takeIn_13 : decode cX2_takeIn 13 = .ok (.getfield 208, 3) := by decide +kernel
theorem dX2_takeIn_16 : decode cX2_takeIn 16 = .ok (.iconst 1, 1) := by decide +kernel
theorem dX2_takeIn_17 : decode cX2_takeIn 17 = .ok (.iastore, 1) := by decide +kernel
theorem dX2_takeIn_18 : decode cX2_takeIn 18 = .ok (.aload_n 2, 1) := by decide +kernel
theorem dX2_takeIn_19 : decode cX2_takeIn 19 = .ok (.getfield 131, 3) := by decide +kernel
theorem dX2_takeIn_22 : decode cX2_takeIn 22 = .ok (.aload_n 1, 1) := by decide +kernel
theorem dX2_takeIn_23 : decode cX2_takeIn 23 = .ok (.invokevirtual 61, 3) := by decide +kernel
theorem dX2_takeIn_26 : decode cX2_takeIn 26 = .ok (.pop, 1) := by decide +kernel
theorem dX2_takeIn_27 : decode cX2_takeIn 27 = .ok (.iconst 0, 1) := by decide +kernel
theorem dX2_takeIn_28 : decode cX2_takeIn 28 = .ok (.ireturn, 1) := by decide +kernel
theorem dX2_takeIn_29 : decode cX2_takeIn 29 = .ok (.aload_n 0, 1) := by decide +kernel
theorem dX2_takeIn_30 : decode cX2_takeIn 30 = .ok (.aload_n 1, 1) := by decide +kernel
theorem dX2_takeIn_31 : decode cX2_takeIn 31 = .ok (.aload_n 2, 1) := by decide +kernel
theorem dX2_takeIn_32 : decode cX2_takeIn 32 = .ok (.invokevirtual 69, 3) := by decide +kernel
theorem dX2_takeIn_35 : decode cX2_takeIn 35 = .ok (.iconst 1, 1) := by decide +kernel
theorem dX2_takeIn_36 : decode cX2_takeIn 36 = .ok (.aload_n 0, 1) := by decide +kernel
theorem dX2_takeIn_37 : decode cX2_takeIn 37 = .ok (.aload_n 2, 1) := by decide +kernel
theorem dX2_takeIn_38 : decode cX2_takeIn 38 = .ok (.invokevirtual 209, 3) := by decide +kernel
theorem dX2_takeIn_41 : decode cX2_takeIn 41 = .ok (.iadd, 1) := by decide +kernel
theorem dX2_takeIn_42 : decode cX2_takeIn 42 = .ok (.ireturn, 1) := by decide +kernel
theorem dX2_deliverHeld_0 : decode cX2_deliverHeld 0 = .ok (.aload_n 1, 1) := by decide +kernel
theorem dX2_deliverHeld_1 : decode cX2_deliverHeld 1 = .ok (.getfield 131, 3) := by decide +kernel
theorem dX2_deliverHeld_4 : decode cX2_deliverHeld 4 = .ok (.invokevirtual 42, 3) := by decide +kernel
theorem dX2_deliverHeld_7 : decode cX2_deliverHeld 7 = .ok (.istore_n 2, 1) := by decide +kernel
theorem dX2_deliverHeld_8 : decode cX2_deliverHeld 8 = .ok (.iconst 0, 1) := by decide +kernel
theorem dX2_deliverHeld_9 : decode cX2_deliverHeld 9 = .ok (.istore_n 3, 1) := by decide +kernel
theorem dX2_deliverHeld_10 : decode cX2_deliverHeld 10 = .ok (.iload_n 3, 1) := by decide +kernel
theorem dX2_deliverHeld_11 : decode cX2_deliverHeld 11 = .ok (.iload_n 2, 1) := by decide +kernel
theorem dX2_deliverHeld_12 : decode cX2_deliverHeld 12 = .ok (.if_icmp .ge 40, 3) := by decide +kernel
theorem dX2_deliverHeld_15 : decode cX2_deliverHeld 15 = .ok (.aload_n 1, 1) := by decide +kernel
theorem dX2_deliverHeld_16 : decode cX2_deliverHeld 16 = .ok (.invokevirtual 212, 3) := by decide +kernel
theorem dX2_deliverHeld_19 : decode cX2_deliverHeld 19 = .ok (.istore 4, 2) := by decide +kernel
theorem dX2_deliverHeld_21 : decode cX2_deliverHeld 21 = .ok (.iload 4, 2) := by decide +kernel
theorem dX2_deliverHeld_23 : decode cX2_deliverHeld 23 = .ok (.iconst (-1), 1) := by decide +kernel
theorem dX2_deliverHeld_24 : decode cX2_deliverHeld 24 = .ok (.if_icmp .ne 5, 3) := by decide +kernel
theorem dX2_deliverHeld_27 : decode cX2_deliverHeld 27 = .ok (.iload_n 3, 1) := by decide +kernel
theorem dX2_deliverHeld_28 : decode cX2_deliverHeld 28 = .ok (.ireturn, 1) := by decide +kernel
theorem dX2_deliverHeld_29 : decode cX2_deliverHeld 29 = .ok (.aload_n 0, 1) := by decide +kernel
theorem dX2_deliverHeld_30 : decode cX2_deliverHeld 30 = .ok (.aload_n 1, 1) := by decide +kernel
theorem dX2_deliverHeld_31 : decode cX2_deliverHeld 31 = .ok (.getfield 131, 3) := by decide +kernel
theorem dX2_deliverHeld_34 : decode cX2_deliverHeld 34 = .ok (.iload 4, 2) := by decide +kernel
theorem dX2_deliverHeld_36 : decode cX2_deliverHeld 36 = .ok (.invokevirtual 215, 3) := by decide +kernel
theorem dX2_deliverHeld_39 : decode cX2_deliverHeld 39 = .ok (.checkcast 53, 3) := by decide +kernel
theorem dX2_deliverHeld_42 : decode cX2_deliverHeld 42 = .ok (.aload_n 1, 1) := by decide +kernel
theorem dX2_deliverHeld_43 : decode cX2_deliverHeld 43 = .ok (.invokevirtual 69, 3) := by decide +kernel
theorem dX2_deliverHeld_46 : decode cX2_deliverHeld 46 = .ok (.iinc 3 1, 3) := by decide +kernel
theorem dX2_deliverHeld_49 : decode cX2_deliverHeld 49 = .ok (.goto (-39), 3) := by decide +kernel
theorem dX2_deliverHeld_52 : decode cX2_deliverHeld 52 = .ok (.iload_n 2, 1) := by decide +kernel
theorem dX2_deliverHeld_53 : decode cX2_deliverHeld 53 = .ok (.ireturn, 1) := by decide +kernel
theorem dX2_deliver_0 : decode cX2_deliver 0 = .ok (.aload_n 1, 1) := by decide +kernel
theorem dX2_deliver_1 : decode cX2_deliver 1 = .ok (.getfield 101, 3) := by decide +kernel
theorem dX2_deliver_4 : decode cX2_deliver 4 = .ok (.aload_n 2, 1) := by decide +kernel
theorem dX2_deliver_5 : decode cX2_deliver 5 = .ok (.getfield 208, 3) := by decide +kernel
theorem dX2_deliver_8 : decode cX2_deliver 8 = .ok (.iconst 2, 1) := by decide +kernel
theorem dX2_deliver_9 : decode cX2_deliver 9 = .ok (.iastore, 1) := by decide +kernel
theorem dX2_deliver_10 : decode cX2_deliver 10 = .ok (.aload_n 1, 1) := by decide +kernel
theorem dX2_deliver_11 : decode cX2_deliver 11 = .ok (.getfield 218, 3) := by decide +kernel
theorem dX2_deliver_14 : decode cX2_deliver 14 = .ok (.aload_n 2, 1) := by decide +kernel
theorem dX2_deliver_15 : decode cX2_deliver 15 = .ok (.getfield 208, 3) := by decide +kernel
theorem dX2_deliver_18 : decode cX2_deliver 18 = .ok (.aload_n 2, 1) := by decide +kernel
theorem dX2_deliver_19 : decode cX2_deliver 19 = .ok (.getfield 55, 3) := by decide +kernel
theorem dX2_deliver_22 : decode cX2_deliver 22 = .ok (.invokevirtual 42, 3) := by decide +kernel
theorem dX2_deliver_25 : decode cX2_deliver 25 = .ok (.iastore, 1) := by decide +kernel
theorem dX2_deliver_26 : decode cX2_deliver 26 = .ok (.aload_n 2, 1) := by decide +kernel
theorem dX2_deliver_27 : decode cX2_deliver 27 = .ok (.getfield 55, 3) := by decide +kernel
theorem dX2_deliver_30 : decode cX2_deliver 30 = .ok (.aload_n 1, 1) := by decide +kernel
theorem dX2_deliver_31 : decode cX2_deliver 31 = .ok (.invokevirtual 61, 3) := by decide +kernel
theorem dX2_deliver_34 : decode cX2_deliver 34 = .ok (.pop, 1) := by decide +kernel
theorem dX2_deliver_35 : decode cX2_deliver 35 = .ok (.aload_n 2, 1) := by decide +kernel
theorem dX2_deliver_36 : decode cX2_deliver 36 = .ok (.getfield 73, 3) := by decide +kernel
theorem dX2_deliver_39 : decode cX2_deliver 39 = .ok (.aload_n 1, 1) := by decide +kernel
theorem dX2_deliver_40 : decode cX2_deliver 40 = .ok (.getfield 117, 3) := by decide +kernel
theorem dX2_deliver_43 : decode cX2_deliver 43 = .ok (.dup2, 1) := by decide +kernel
theorem dX2_deliver_44 : decode cX2_deliver 44 = .ok (.iaload, 1) := by decide +kernel
theorem dX2_deliver_45 : decode cX2_deliver 45 = .ok (.iconst 1, 1) := by decide +kernel
theorem dX2_deliver_46 : decode cX2_deliver 46 = .ok (.iadd, 1) := by decide +kernel
theorem dX2_deliver_47 : decode cX2_deliver 47 = .ok (.iastore, 1) := by decide +kernel
theorem dX2_deliver_48 : decode cX2_deliver 48 = .ok (.aload_n 2, 1) := by decide +kernel
theorem dX2_deliver_49 : decode cX2_deliver 49 = .ok (.getfield 208, 3) := by decide +kernel
theorem dX2_deliver_52 : decode cX2_deliver 52 = .ok (.aload_n 0, 1) := by decide +kernel
theorem dX2_deliver_53 : decode cX2_deliver 53 = .ok (.getfield 138, 3) := by decide +kernel
theorem dX2_deliver_56 : decode cX2_deliver 56 = .ok (.if_icmp .ne 19, 3) := by decide +kernel
theorem dX2_deliver_59 : decode cX2_deliver 59 = .ok (.aload_n 0, 1) := by decide +kernel
theorem dX2_deliver_60 : decode cX2_deliver 60 = .ok (.aload_n 1, 1) := by decide +kernel
theorem dX2_deliver_61 : decode cX2_deliver 61 = .ok (.invokevirtual 221, 3) := by decide +kernel
theorem dX2_deliver_64 : decode cX2_deliver 64 = .ok (.aload_n 2, 1) := by decide +kernel
theorem dX2_deliver_65 : decode cX2_deliver 65 = .ok (.aload_n 0, 1) := by decide +kernel
theorem dX2_deliver_66 : decode cX2_deliver 66 = .ok (.getfield 25, 3) := by decide +kernel
theorem dX2_deliver_69 : decode cX2_deliver 69 = .ok (.invokevirtual 42, 3) := by decide +kernel
theorem dX2_deliver_72 : decode cX2_deliver 72 = .ok (.putfield 153, 3) := by decide +kernel
theorem dX2_deliver_75 : decode cX2_deliver 75 = .ok (.return_, 1) := by decide +kernel
theorem dX2_isNeeded_0 : decode cX2_isNeeded 0 = .ok (.aload_n 0, 1) := by decide +kernel
theorem dX2_isNeeded_1 : decode cX2_isNeeded 1 = .ok (.getfield 21, 3) := by decide +kernel
theorem dX2_isNeeded_4 : decode cX2_isNeeded 4 = .ok (.iload_n 1, 1) := by decide +kernel
theorem dX2_isNeeded_5 : decode cX2_isNeeded 5 = .ok (.invokevirtual 97, 3) := by decide +kernel
theorem dX2_isNeeded_8 : decode cX2_isNeeded 8 = .ok (.checkcast 53, 3) := by decide +kernel
theorem dX2_isNeeded_11 : decode cX2_isNeeded 11 = .ok (.aload_n 0, 1) := by decide +kernel
theorem dX2_isNeeded_12 : decode cX2_isNeeded 12 = .ok (.getfield 21, 3) := by decide +kernel
theorem dX2_isNeeded_15 : decode cX2_isNeeded 15 = .ok (.iload_n 2, 1) := by decide +kernel
theorem dX2_isNeeded_16 : decode cX2_isNeeded 16 = .ok (.invokevirtual 97, 3) := by decide +kernel
theorem dX2_isNeeded_19 : decode cX2_isNeeded 19 = .ok (.checkcast 53, 3) := by decide +kernel
theorem dX2_isNeeded_22 : decode cX2_isNeeded 22 = .ok (.invokevirtual 120, 3) := by decide +kernel
theorem dX2_isNeeded_25 : decode cX2_isNeeded 25 = .ok (.ifCond .eq 25, 3) := by decide +kernel
theorem dX2_isNeeded_28 : decode cX2_isNeeded 28 = .ok (.aload_n 0, 1) := by decide +kernel
theorem dX2_isNeeded_29 : decode cX2_isNeeded 29 = .ok (.getfield 21, 3) := by decide +kernel
theorem dX2_isNeeded_32 : decode cX2_isNeeded 32 = .ok (.iload_n 1, 1) := by decide +kernel
theorem dX2_isNeeded_33 : decode cX2_isNeeded 33 = .ok (.invokevirtual 97, 3) := by decide +kernel
theorem dX2_isNeeded_36 : decode cX2_isNeeded 36 = .ok (.checkcast 53, 3) := by decide +kernel
theorem dX2_isNeeded_39 : decode cX2_isNeeded 39 = .ok (.iload_n 3, 1) := by decide +kernel
theorem dX2_isNeeded_40 : decode cX2_isNeeded 40 = .ok (.invokevirtual 224, 3) := by decide +kernel
theorem dX2_isNeeded_43 : decode cX2_isNeeded 43 = .ok (.ifCond .ne 7, 3) := by decide +kernel
theorem dX2_isNeeded_46 : decode cX2_isNeeded 46 = .ok (.iconst 1, 1) := by decide +kernel
theorem dX2_isNeeded_47 : decode cX2_isNeeded 47 = .ok (.goto 4, 3) := by decide +kernel
theorem dX2_isNeeded_50 : decode cX2_isNeeded 50 = .ok (.iconst 0, 1) := by decide +kernel
theorem dX2_isNeeded_51 : decode cX2_isNeeded 51 = .ok (.ireturn, 1) := by decide +kernel
theorem dX2_giveNumber_0 : decode cX2_giveNumber 0 = .ok (.aload_n 1, 1) := by decide +kernel
theorem dX2_giveNumber_1 : decode cX2_giveNumber 1 = .ok (.getfield 156, 3) := by decide +kernel
theorem dX2_giveNumber_4 : decode cX2_giveNumber 4 = .ok (.iconst (-1), 1) := by decide +kernel
theorem dX2_giveNumber_5 : decode cX2_giveNumber 5 = .ok (.if_icmp .ne 23, 3) := by decide +kernel
theorem dX2_giveNumber_8 : decode cX2_giveNumber 8 = .ok (.aload_n 1, 1) := by decide +kernel
theorem dX2_giveNumber_9 : decode cX2_giveNumber 9 = .ok (.aload_n 0, 1) := by decide +kernel
theorem dX2_giveNumber_10 : decode cX2_giveNumber 10 = .ok (.getfield 25, 3) := by decide +kernel
theorem dX2_giveNumber_13 : decode cX2_giveNumber 13 = .ok (.invokevirtual 42, 3) := by decide +kernel
theorem dX2_giveNumber_16 : decode cX2_giveNumber 16 = .ok (.putfield 156, 3) := by decide +kernel
theorem dX2_giveNumber_19 : decode cX2_giveNumber 19 = .ok (.aload_n 0, 1) := by decide +kernel
theorem dX2_giveNumber_20 : decode cX2_giveNumber 20 = .ok (.getfield 25, 3) := by decide +kernel
theorem dX2_giveNumber_23 : decode cX2_giveNumber 23 = .ok (.aload_n 1, 1) := by decide +kernel
theorem dX2_giveNumber_24 : decode cX2_giveNumber 24 = .ok (.invokevirtual 61, 3) := by decide +kernel
theorem dX2_giveNumber_27 : decode cX2_giveNumber 27 = .ok (.pop, 1) := by decide +kernel
theorem dX2_giveNumber_28 : decode cX2_giveNumber 28 = .ok (.return_, 1) := by decide +kernel
theorem dX2_giveToken_0 : decode cX2_giveToken 0 = .ok (.aload_n 0, 1) := by decide +kernel
theorem dX2_giveToken_1 : decode cX2_giveToken 1 = .ok (.getfield 25, 3) := by decide +kernel
theorem dX2_giveToken_4 : decode cX2_giveToken 4 = .ok (.invokevirtual 42, 3) := by decide +kernel
theorem dX2_giveToken_7 : decode cX2_giveToken 7 = .ok (.istore_n 2, 1) := by decide +kernel
theorem dX2_giveToken_8 : decode cX2_giveToken 8 = .ok (.aload_n 0, 1) := by decide +kernel
theorem dX2_giveToken_9 : decode cX2_giveToken 9 = .ok (.aload_n 1, 1) := by decide +kernel
theorem dX2_giveToken_10 : decode cX2_giveToken 10 = .ok (.getfield 208, 3) := by decide +kernel
theorem dX2_giveToken_13 : decode cX2_giveToken 13 = .ok (.putfield 138, 3) := by decide +kernel
theorem dX2_giveToken_16 : decode cX2_giveToken 16 = .ok (.iconst 0, 1) := by decide +kernel
theorem dX2_giveToken_17 : decode cX2_giveToken 17 = .ok (.istore_n 3, 1) := by decide +kernel
theorem dX2_giveToken_18 : decode cX2_giveToken 18 = .ok (.iload_n 3, 1) := by decide +kernel
theorem dX2_giveToken_19 : decode cX2_giveToken 19 = .ok (.aload_n 1, 1) := by decide +kernel
theorem dX2_giveToken_20 : decode cX2_giveToken 20 = .ok (.getfield 55, 3) := by decide +kernel
theorem dX2_giveToken_23 : decode cX2_giveToken 23 = .ok (.invokevirtual 42, 3) := by decide +kernel
theorem dX2_giveToken_26 : decode cX2_giveToken 26 = .ok (.if_icmp .ge 24, 3) := by decide +kernel
theorem dX2_giveToken_29 : decode cX2_giveToken 29 = .ok (.aload_n 0, 1) := by decide +kernel
theorem dX2_giveToken_30 : decode cX2_giveToken 30 = .ok (.aload_n 1, 1) := by decide +kernel
theorem dX2_giveToken_31 : decode cX2_giveToken 31 = .ok (.getfield 55, 3) := by decide +kernel
theorem dX2_giveToken_34 : decode cX2_giveToken 34 = .ok (.iload_n 3, 1) := by decide +kernel
theorem dX2_giveToken_35 : decode cX2_giveToken 35 = .ok (.invokevirtual 97, 3) := by decide +kernel
theorem dX2_giveToken_38 : decode cX2_giveToken 38 = .ok (.checkcast 53, 3) := by decide +kernel
theorem dX2_giveToken_41 : decode cX2_giveToken 41 = .ok (.invokevirtual 221, 3) := by decide +kernel
theorem dX2_giveToken_44 : decode cX2_giveToken 44 = .ok (.iinc 3 1, 3) := by decide +kernel
theorem dX2_giveToken_47 : decode cX2_giveToken 47 = .ok (.goto (-29), 3) := by decide +kernel
theorem dX2_giveToken_50 : decode cX2_giveToken 50 = .ok (.aload_n 1, 1) := by decide +kernel
theorem dX2_giveToken_51 : decode cX2_giveToken 51 = .ok (.aload_n 0, 1) := by decide +kernel
theorem dX2_giveToken_52 : decode cX2_giveToken 52 = .ok (.getfield 25, 3) := by decide +kernel
theorem dX2_giveToken_55 : decode cX2_giveToken 55 = .ok (.invokevirtual 42, 3) := by decide +kernel
theorem dX2_giveToken_58 : decode cX2_giveToken 58 = .ok (.putfield 153, 3) := by decide +kernel
theorem dX2_giveToken_61 : decode cX2_giveToken 61 = .ok (.aload_n 0, 1) := by decide +kernel
theorem dX2_giveToken_62 : decode cX2_giveToken 62 = .ok (.getfield 25, 3) := by decide +kernel
theorem dX2_giveToken_65 : decode cX2_giveToken 65 = .ok (.invokevirtual 42, 3) := by decide +kernel
theorem dX2_giveToken_68 : decode cX2_giveToken 68 = .ok (.iload_n 2, 1) := by decide +kernel
theorem dX2_giveToken_69 : decode cX2_giveToken 69 = .ok (.isub, 1) := by decide +kernel
theorem dX2_giveToken_70 : decode cX2_giveToken 70 = .ok (.ireturn, 1) := by decide +kernel
theorem dX2_hasAllNumbered_0 : decode cX2_hasAllNumbered 0 = .ok (.iconst 0, 1) := by decide +kernel
theorem dX2_hasAllNumbered_1 : decode cX2_hasAllNumbered 1 = .ok (.istore_n 2, 1) := by decide +kernel
theorem dX2_hasAllNumbered_2 : decode cX2_hasAllNumbered 2 = .ok (.iload_n 2, 1) := by decide +kernel
theorem dX2_hasAllNumbered_3 : decode cX2_hasAllNumbered 3 = .ok (.aload_n 0, 1) := by decide +kernel
theorem dX2_hasAllNumbered_4 : decode cX2_hasAllNumbered 4 = .ok (.getfield 25, 3) := by decide +kernel
theorem dX2_hasAllNumbered_7 : decode cX2_hasAllNumbered 7 = .ok (.invokevirtual 42, 3) := by decide +kernel
theorem dX2_hasAllNumbered_10 : decode cX2_hasAllNumbered 10 = .ok (.if_icmp .ge 29, 3) := by decide +kernel
theorem dX2_hasAllNumbered_13 : decode cX2_hasAllNumbered 13 = .ok (.aload_n 0, 1) := by decide +kernel
theorem dX2_hasAllNumbered_14 : decode cX2_hasAllNumbered 14 = .ok (.getfield 25, 3) := by decide +kernel
theorem dX2_hasAllNumbered_17 : decode cX2_hasAllNumbered 17 = .ok (.iload_n 2, 1) := by decide +kernel
theorem dX2_hasAllNumbered_18 : decode cX2_hasAllNumbered 18 = .ok (.invokevirtual 97, 3) := by decide +kernel
theorem dX2_hasAllNumbered_21 : decode cX2_hasAllNumbered 21 = .ok (.checkcast 53, 3) := by decide +kernel
theorem dX2_hasAllNumbered_24 : decode cX2_hasAllNumbered 24 = .ok (.iload_n 1, 1) := by decide +kernel
theorem dX2_hasAllNumbered_25 : decode cX2_hasAllNumbered 25 = .ok (.invokevirtual 224, 3) := by decide +kernel
theorem dX2_hasAllNumbered_28 : decode cX2_hasAllNumbered 28 = .ok (.ifCond .ne 5, 3) := by decide +kernel
theorem dX2_hasAllNumbered_31 : decode cX2_hasAllNumbered 31 = .ok (.iconst 0, 1) := by decide +kernel
theorem dX2_hasAllNumbered_32 : decode cX2_hasAllNumbered 32 = .ok (.ireturn, 1) := by decide +kernel
theorem dX2_hasAllNumbered_33 : decode cX2_hasAllNumbered 33 = .ok (.iinc 2 1, 3) := by decide +kernel
theorem dX2_hasAllNumbered_36 : decode cX2_hasAllNumbered 36 = .ok (.goto (-34), 3) := by decide +kernel
theorem dX2_hasAllNumbered_39 : decode cX2_hasAllNumbered 39 = .ok (.iconst 1, 1) := by decide +kernel
theorem dX2_hasAllNumbered_40 : decode cX2_hasAllNumbered 40 = .ok (.ireturn, 1) := by decide +kernel
theorem dX2_countOrdered_0 : decode cX2_countOrdered 0 = .ok (.aload_n 1, 1) := by decide +kernel
theorem dX2_countOrdered_1 : decode cX2_countOrdered 1 = .ok (.getfield 153, 3) := by decide +kernel
theorem dX2_countOrdered_4 : decode cX2_countOrdered 4 = .ok (.aload_n 0, 1) := by decide +kernel
theorem dX2_countOrdered_5 : decode cX2_countOrdered 5 = .ok (.getfield 25, 3) := by decide +kernel
theorem dX2_countOrdered_8 : decode cX2_countOrdered 8 = .ok (.invokevirtual 42, 3) := by decide +kernel
theorem dX2_countOrdered_11 : decode cX2_countOrdered 11 = .ok (.invokestatic 227, 3) := by decide +kernel
theorem dX2_countOrdered_14 : decode cX2_countOrdered 14 = .ok (.istore_n 2, 1) := by decide +kernel
theorem dX2_countOrdered_15 : decode cX2_countOrdered 15 = .ok (.iconst 0, 1) := by decide +kernel
theorem dX2_countOrdered_16 : decode cX2_countOrdered 16 = .ok (.istore_n 3, 1) := by decide +kernel
theorem dX2_countOrdered_17 : decode cX2_countOrdered 17 = .ok (.iload_n 3, 1) := by decide +kernel
theorem dX2_countOrdered_18 : decode cX2_countOrdered 18 = .ok (.iload_n 2, 1) := by decide +kernel
theorem dX2_countOrdered_19 : decode cX2_countOrdered 19 = .ok (.if_icmp .ge 32, 3) := by decide +kernel
theorem dX2_countOrdered_22 : decode cX2_countOrdered 22 = .ok (.aload_n 0, 1) := by decide +kernel
theorem dX2_countOrdered_23 : decode cX2_countOrdered 23 = .ok (.getfield 25, 3) := by decide +kernel
theorem dX2_countOrdered_26 : decode cX2_countOrdered 26 = .ok (.iload_n 3, 1) := by decide +kernel
theorem dX2_countOrdered_27 : decode cX2_countOrdered 27 = .ok (.invokevirtual 97, 3) := by decide +kernel
theorem dX2_countOrdered_30 : decode cX2_countOrdered 30 = .ok (.checkcast 53, 3) := by decide +kernel
theorem dX2_countOrdered_33 : decode cX2_countOrdered 33 = .ok (.aload_n 1, 1) := by decide +kernel
theorem dX2_countOrdered_34 : decode cX2_countOrdered 34 = .ok (.getfield 208, 3) := by decide +kernel
theorem dX2_countOrdered_37 : decode cX2_countOrdered 37 = .ok (.invokevirtual 224, 3) := by decide +kernel
theorem dX2_countOrdered_40 : decode cX2_countOrdered 40 = .ok (.ifCond .ne 5, 3) := by decide +kernel
theorem dX2_countOrdered_43 : decode cX2_countOrdered 43 = .ok (.iload_n 3, 1) := by decide +kernel
theorem dX2_countOrdered_44 : decode cX2_countOrdered 44 = .ok (.ireturn, 1) := by decide +kernel
theorem dX2_countOrdered_45 : decode cX2_countOrdered 45 = .ok (.iinc 3 1, 3) := by decide +kernel
theorem dX2_countOrdered_48 : decode cX2_countOrdered 48 = .ok (.goto (-31), 3) := by decide +kernel
theorem dX2_countOrdered_51 : decode cX2_countOrdered 51 = .ok (.iload_n 2, 1) := by decide +kernel
theorem dX2_countOrdered_52 : decode cX2_countOrdered 52 = .ok (.ireturn, 1) := by decide +kernel
theorem dX2_propose_0 : decode cX2_propose 0 = .ok (.aload_n 2, 1) := by decide +kernel
theorem dX2_propose_1 : decode cX2_propose 1 = .ok (.getfield 233, 3) := by decide +kernel
theorem dX2_propose_4 : decode cX2_propose 4 = .ok (.aload_n 0, 1) := by decide +kernel
theorem dX2_propose_5 : decode cX2_propose 5 = .ok (.getfield 236, 3) := by decide +kernel
theorem dX2_propose_8 : decode cX2_propose 8 = .ok (.invokestatic 239, 3) := by decide +kernel
theorem dX2_propose_11 : decode cX2_propose 11 = .ok (.iconst 1, 1) := by decide +kernel
theorem dX2_propose_12 : decode cX2_propose 12 = .ok (.iadd, 1) := by decide +kernel
theorem dX2_propose_13 : decode cX2_propose 13 = .ok (.istore_n 3, 1) := by decide +kernel
theorem dX2_propose_14 : decode cX2_propose 14 = .ok (.aload_n 2, 1) := by decide +kernel
theorem dX2_propose_15 : decode cX2_propose 15 = .ok (.iload_n 3, 1) := by decide +kernel
theorem dX2_propose_16 : decode cX2_propose 16 = .ok (.putfield 233, 3) := by decide +kernel
theorem dX2_propose_19 : decode cX2_propose 19 = .ok (.aload_n 1, 1) := by decide +kernel
theorem dX2_propose_20 : decode cX2_propose 20 = .ok (.getfield 165, 3) := by decide +kernel
theorem dX2_propose_23 : decode cX2_propose 23 = .ok (.aload_n 2, 1) := by decide +kernel
theorem dX2_propose_24 : decode cX2_propose 24 = .ok (.getfield 208, 3) := by decide +kernel
theorem dX2_propose_27 : decode cX2_propose 27 = .ok (.iload_n 3, 1) := by decide +kernel
theorem dX2_propose_28 : decode cX2_propose 28 = .ok (.iastore, 1) := by decide +kernel
theorem dX2_propose_29 : decode cX2_propose 29 = .ok (.aload_n 0, 1) := by decide +kernel
theorem dX2_propose_30 : decode cX2_propose 30 = .ok (.aload_n 1, 1) := by decide +kernel
theorem dX2_propose_31 : decode cX2_propose 31 = .ok (.invokevirtual 242, 3) := by decide +kernel
theorem dX2_propose_34 : decode cX2_propose 34 = .ok (.ifCond .eq 12, 3) := by decide +kernel
theorem dX2_propose_37 : decode cX2_propose 37 = .ok (.aload_n 0, 1) := by decide +kernel
theorem dX2_propose_38 : decode cX2_propose 38 = .ok (.aload_n 1, 1) := by decide +kernel
theorem dX2_propose_39 : decode cX2_propose 39 = .ok (.aload_n 1, 1) := by decide +kernel
theorem dX2_propose_40 : decode cX2_propose 40 = .ok (.invokevirtual 245, 3) := by decide +kernel
theorem dX2_propose_43 : decode cX2_propose 43 = .ok (.invokevirtual 248, 3) := by decide +kernel
theorem dX2_propose_46 : decode cX2_propose 46 = .ok (.return_, 1) := by decide +kernel
theorem dX2_hasAllProposals_0 : decode cX2_hasAllProposals 0 = .ok (.iconst 0, 1) := by decide +kernel
theorem dX2_hasAllProposals_1 : decode cX2_hasAllProposals 1 = .ok (.istore_n 2, 1) := by decide +kernel
theorem dX2_hasAllProposals_2 : decode cX2_hasAllProposals 2 = .ok (.iload_n 2, 1) := by decide +kernel
theorem dX2_hasAllProposals_3 : decode cX2_hasAllProposals 3 = .ok (.iconst 4, 1) := by decide +kernel
theorem dX2_hasAllProposals_4 : decode cX2_hasAllProposals 4 = .ok (.if_icmp .ge 33, 3) := by decide +kernel
theorem dX2_hasAllProposals_7 : decode cX2_hasAllProposals 7 = .ok (.aload_n 0, 1) := by decide +kernel
theorem dX2_hasAllProposals_8 : decode cX2_hasAllProposals 8 = .ok (.getfield 11, 3) := by decide +kernel
theorem dX2_hasAllProposals_11 : decode cX2_hasAllProposals 11 = .ok (.iload_n 2, 1) := by decide +kernel
theorem dX2_hasAllProposals_12 : decode cX2_hasAllProposals 12 = .ok (.aaload, 1) := by decide +kernel
theorem dX2_hasAllProposals_13 : decode cX2_hasAllProposals 13 = .ok (.getfield 202, 3) := by decide +kernel
theorem dX2_hasAllProposals_16 : decode cX2_hasAllProposals 16 = .ok (.ifCond .eq 15, 3) := by decide +kernel
theorem dX2_hasAllProposals_19 : decode cX2_hasAllProposals 19 = .ok (.aload_n 1, 1) := by decide +kernel
theorem dX2_hasAllProposals_20 : decode cX2_hasAllProposals 20 = .ok (.getfield 165, 3) := by decide +kernel
theorem dX2_hasAllProposals_23 : decode cX2_hasAllProposals 23 = .ok (.iload_n 2, 1) := by decide +kernel
theorem dX2_hasAllProposals_24 : decode cX2_hasAllProposals 24 = .ok (.iaload, 1) := by decide +kernel
theorem dX2_hasAllProposals_25 : decode cX2_hasAllProposals 25 = .ok (.iconst (-1), 1) := by decide +kernel
theorem dX2_hasAllProposals_26 : decode cX2_hasAllProposals 26 = .ok (.if_icmp .ne 5, 3) := by decide +kernel
theorem dX2_hasAllProposals_29 : decode cX2_hasAllProposals 29 = .ok (.iconst 0, 1) := by decide +kernel
theorem dX2_hasAllProposals_30 : decode cX2_hasAllProposals 30 = .ok (.ireturn, 1) := by decide +kernel
theorem dX2_hasAllProposals_31 : decode cX2_hasAllProposals 31 = .ok (.iinc 2 1, 3) := by decide +kernel
theorem dX2_hasAllProposals_34 : decode cX2_hasAllProposals 34 = .ok (.goto (-32), 3) := by decide +kernel
theorem dX2_hasAllProposals_37 : decode cX2_hasAllProposals 37 = .ok (.iconst 1, 1) := by decide +kernel
theorem dX2_hasAllProposals_38 : decode cX2_hasAllProposals 38 = .ok (.ireturn, 1) := by decide +kernel
theorem dX2_agreeOn_0 : decode cX2_agreeOn 0 = .ok (.aload_n 1, 1) := by decide +kernel
theorem dX2_agreeOn_1 : decode cX2_agreeOn 1 = .ok (.iload_n 2, 1) := by decide +kernel
theorem dX2_agreeOn_2 : decode cX2_agreeOn 2 = .ok (.putfield 168, 3) := by decide +kernel
theorem dX2_agreeOn_5 : decode cX2_agreeOn 5 = .ok (.aload_n 0, 1) := by decide +kernel
theorem dX2_agreeOn_6 : decode cX2_agreeOn 6 = .ok (.iload_n 2, 1) := by decide +kernel
theorem dX2_agreeOn_7 : decode cX2_agreeOn 7 = .ok (.putfield 236, 3) := by decide +kernel
theorem dX2_agreeOn_10 : decode cX2_agreeOn 10 = .ok (.aload_n 0, 1) := by decide +kernel
theorem dX2_agreeOn_11 : decode cX2_agreeOn 11 = .ok (.getfield 28, 3) := by decide +kernel
theorem dX2_agreeOn_14 : decode cX2_agreeOn 14 = .ok (.aload_n 1, 1) := by decide +kernel
theorem dX2_agreeOn_15 : decode cX2_agreeOn 15 = .ok (.invokevirtual 61, 3) := by decide +kernel
theorem dX2_agreeOn_18 : decode cX2_agreeOn 18 = .ok (.pop, 1) := by decide +kernel
theorem dX2_agreeOn_19 : decode cX2_agreeOn 19 = .ok (.return_, 1) := by decide +kernel
theorem dX2_countAlive_0 : decode cX2_countAlive 0 = .ok (.iconst 0, 1) := by decide +kernel
theorem dX2_countAlive_1 : decode cX2_countAlive 1 = .ok (.istore_n 1, 1) := by decide +kernel
theorem dX2_countAlive_2 : decode cX2_countAlive 2 = .ok (.iconst 0, 1) := by decide +kernel
theorem dX2_countAlive_3 : decode cX2_countAlive 3 = .ok (.istore_n 2, 1) := by decide +kernel
theorem dX2_countAlive_4 : decode cX2_countAlive 4 = .ok (.iload_n 2, 1) := by decide +kernel
theorem dX2_countAlive_5 : decode cX2_countAlive 5 = .ok (.iconst 4, 1) := by decide +kernel
theorem dX2_countAlive_6 : decode cX2_countAlive 6 = .ok (.if_icmp .ge 24, 3) := by decide +kernel
theorem dX2_countAlive_9 : decode cX2_countAlive 9 = .ok (.aload_n 0, 1) := by decide +kernel
theorem dX2_countAlive_10 : decode cX2_countAlive 10 = .ok (.getfield 11, 3) := by decide +kernel
theorem dX2_countAlive_13 : decode cX2_countAlive 13 = .ok (.iload_n 2, 1) := by decide +kernel
theorem dX2_countAlive_14 : decode cX2_countAlive 14 = .ok (.aaload, 1) := by decide +kernel
theorem dX2_countAlive_15 : decode cX2_countAlive 15 = .ok (.getfield 34, 3) := by decide +kernel
theorem dX2_countAlive_18 : decode cX2_countAlive 18 = .ok (.ifCond .eq 6, 3) := by decide +kernel
theorem dX2_countAlive_21 : decode cX2_countAlive 21 = .ok (.iinc 1 1, 3) := by decide +kernel
theorem dX2_countAlive_24 : decode cX2_countAlive 24 = .ok (.iinc 2 1, 3) := by decide +kernel
theorem dX2_countAlive_27 : decode cX2_countAlive 27 = .ok (.goto (-23), 3) := by decide +kernel
theorem dX2_countAlive_30 : decode cX2_countAlive 30 = .ok (.iload_n 1, 1) := by decide +kernel
theorem dX2_countAlive_31 : decode cX2_countAlive 31 = .ok (.ireturn, 1) := by decide +kernel
theorem dX2_hasFailureInView_0 : decode cX2_hasFailureInView 0 = .ok (.iconst 0, 1) := by decide +kernel
theorem dX2_hasFailureInView_1 : decode cX2_hasFailureInView 1 = .ok (.istore_n 1, 1) := by decide +kernel
theorem dX2_hasFailureInView_2 : decode cX2_hasFailureInView 2 = .ok (.iload_n 1, 1) := by decide +kernel
theorem dX2_hasFailureInView_3 : decode cX2_hasFailureInView 3 = .ok (.iconst 4, 1) := by decide +kernel
theorem dX2_hasFailureInView_4 : decode cX2_hasFailureInView 4 = .ok (.if_icmp .ge 35, 3) := by decide +kernel
theorem dX2_hasFailureInView_7 : decode cX2_hasFailureInView 7 = .ok (.aload_n 0, 1) := by decide +kernel
theorem dX2_hasFailureInView_8 : decode cX2_hasFailureInView 8 = .ok (.getfield 11, 3) := by decide +kernel
theorem dX2_hasFailureInView_11 : decode cX2_hasFailureInView 11 = .ok (.iload_n 1, 1) := by decide +kernel
theorem dX2_hasFailureInView_12 : decode cX2_hasFailureInView 12 = .ok (.aaload, 1) := by decide +kernel
theorem dX2_hasFailureInView_13 : decode cX2_hasFailureInView 13 = .ok (.getfield 202, 3) := by decide +kernel
theorem dX2_hasFailureInView_16 : decode cX2_hasFailureInView 16 = .ok (.ifCond .eq 17, 3) := by decide +kernel
theorem dX2_hasFailureInView_19 : decode cX2_hasFailureInView 19 = .ok (.aload_n 0, 1) := by decide +kernel
theorem dX2_hasFailureInView_20 : decode cX2_hasFailureInView 20 = .ok (.getfield 11, 3) := by decide +kernel
theorem dX2_hasFailureInView_23 : decode cX2_hasFailureInView 23 = .ok (.iload_n 1, 1) := by decide +kernel
theorem dX2_hasFailureInView_24 : decode cX2_hasFailureInView 24 = .ok (.aaload, 1) := by decide +kernel
theorem dX2_hasFailureInView_25 : decode cX2_hasFailureInView 25 = .ok (.getfield 34, 3) := by decide +kernel
theorem dX2_hasFailureInView_28 : decode cX2_hasFailureInView 28 = .ok (.ifCond .ne 5, 3) := by decide +kernel
theorem dX2_hasFailureInView_31 : decode cX2_hasFailureInView 31 = .ok (.iconst 1, 1) := by decide +kernel
theorem dX2_hasFailureInView_32 : decode cX2_hasFailureInView 32 = .ok (.ireturn, 1) := by decide +kernel
theorem dX2_hasFailureInView_33 : decode cX2_hasFailureInView 33 = .ok (.iinc 1 1, 3) := by decide +kernel
theorem dX2_hasFailureInView_36 : decode cX2_hasFailureInView 36 = .ok (.goto (-34), 3) := by decide +kernel
theorem dX2_hasFailureInView_39 : decode cX2_hasFailureInView 39 = .ok (.iconst 0, 1) := by decide +kernel
theorem dX2_hasFailureInView_40 : decode cX2_hasFailureInView 40 = .ok (.ireturn, 1) := by decide +kernel
theorem dX2_dropUndeliverable_0 : decode cX2_dropUndeliverable 0 = .ok (.iconst 0, 1) := by decide +kernel
theorem dX2_dropUndeliverable_1 : decode cX2_dropUndeliverable 1 = .ok (.istore_n 1, 1) := by decide +kernel
theorem dX2_dropUndeliverable_2 : decode cX2_dropUndeliverable 2 = .ok (.iconst 0, 1) := by decide +kernel
theorem dX2_dropUndeliverable_3 : decode cX2_dropUndeliverable 3 = .ok (.istore_n 2, 1) := by decide +kernel
theorem dX2_dropUndeliverable_4 : decode cX2_dropUndeliverable 4 = .ok (.iload_n 2, 1) := by decide +kernel
theorem dX2_dropUndeliverable_5 : decode cX2_dropUndeliverable 5 = .ok (.aload_n 0, 1) := by decide +kernel
theorem dX2_dropUndeliverable_6 : decode cX2_dropUndeliverable 6 = .ok (.getfield 21, 3) := by decide +kernel
theorem dX2_dropUndeliverable_9 : decode cX2_dropUndeliverable 9 = .ok (.invokevirtual 42, 3) := by decide +kernel
theorem dX2_dropUndeliverable_12 : decode cX2_dropUndeliverable 12 = .ok (.if_icmp .ge 52, 3) := by decide +kernel
theorem dX2_dropUndeliverable_15 : decode cX2_dropUndeliverable 15 = .ok (.aload_n 0, 1) := by decide +kernel
theorem dX2_dropUndeliverable_16 : decode cX2_dropUndeliverable 16 = .ok (.getfield 21, 3) := by decide +kernel
theorem dX2_dropUndeliverable_19 : decode cX2_dropUndeliverable 19 = .ok (.iload_n 2, 1) := by decide +kernel
theorem dX2_dropUndeliverable_20 : decode cX2_dropUndeliverable 20 = .ok (.invokevirtual 97, 3) := by decide +kernel
theorem dX2_dropUndeliverable_23 : decode cX2_dropUndeliverable 23 = .ok (.checkcast 53, 3) := by decide +kernel
theorem dX2_dropUndeliverable_26 : decode cX2_dropUndeliverable 26 = .ok (.astore_n 3, 1) := by decide +kernel
theorem dX2_dropUndeliverable_27 : decode cX2_dropUndeliverable 27 = .ok (.aload_n 3, 1) := by decide +kernel
theorem dX2_dropUndeliverable_28 : decode cX2_dropUndeliverable 28 = .ok (.getfield 252, 3) := by decide +kernel
theorem dX2_dropUndeliverable_31 : decode cX2_dropUndeliverable 31 = .ok (.ifCond .ne 27, 3) := by decide +kernel
theorem dX2_dropUndeliverable_34 : decode cX2_dropUndeliverable 34 = .ok (.aload_n 0, 1) := by decide +kernel
theorem dX2_dropUndeliverable_35 : decode cX2_dropUndeliverable 35 = .ok (.aload_n 3, 1) := by decide +kernel
theorem dX2_dropUndeliverable_36 : decode cX2_dropUndeliverable 36 = .ok (.invokevirtual 255, 3) := by decide +kernel
theorem dX2_dropUndeliverable_39 : decode cX2_dropUndeliverable 39 = .ok (.ifCond .eq 11, 3) := by decide +kernel
theorem dX2_dropUndeliverable_42 : decode cX2_dropUndeliverable 42 = .ok (.aload_n 0, 1) := by decide +kernel
theorem dX2_dropUndeliverable_43 : decode cX2_dropUndeliverable 43 = .ok (.aload_n 3, 1) := by decide +kernel
theorem dX2_dropUndeliverable_44 : decode cX2_dropUndeliverable 44 = .ok (.invokevirtual 258, 3) := by decide +kernel
theorem dX2_dropUndeliverable_47 : decode cX2_dropUndeliverable 47 = .ok (.ifCond .eq 11, 3) := by decide +kernel
theorem dX2_dropUndeliverable_50 : decode cX2_dropUndeliverable 50 = .ok (.aload_n 0, 1) := by decide +kernel
theorem dX2_dropUndeliverable_51 : decode cX2_dropUndeliverable 51 = .ok (.aload_n 3, 1) := by decide +kernel
theorem dX2_dropUndeliverable_52 : decode cX2_dropUndeliverable 52 = .ok (.invokevirtual 261, 3) := by decide +kernel
theorem dX2_dropUndeliverable_55 : decode cX2_dropUndeliverable 55 = .ok (.iinc 1 1, 3) := by decide +kernel
theorem dX2_dropUndeliverable_58 : decode cX2_dropUndeliverable 58 = .ok (.iinc 2 1, 3) := by decide +kernel
theorem dX2_dropUndeliverable_61 : decode cX2_dropUndeliverable 61 = .ok (.goto (-57), 3) := by decide +kernel
theorem dX2_dropUndeliverable_64 : decode cX2_dropUndeliverable 64 = .ok (.iload_n 1, 1) := by decide +kernel
theorem dX2_dropUndeliverable_65 : decode cX2_dropUndeliverable 65 = .ok (.ireturn, 1) := by decide +kernel
theorem dX2_isWithSomeoneAlive_0 : decode cX2_isWithSomeoneAlive 0 = .ok (.iconst 0, 1) := by decide +kernel
theorem dX2_isWithSomeoneAlive_1 : decode cX2_isWithSomeoneAlive 1 = .ok (.istore_n 2, 1) := by decide +kernel
theorem dX2_isWithSomeoneAlive_2 : decode cX2_isWithSomeoneAlive 2 = .ok (.iload_n 2, 1) := by decide +kernel
theorem dX2_isWithSomeoneAlive_3 : decode cX2_isWithSomeoneAlive 3 = .ok (.iconst 4, 1) := by decide +kernel
theorem dX2_isWithSomeoneAlive_4 : decode cX2_isWithSomeoneAlive 4 = .ok (.if_icmp .ge 40, 3) := by decide +kernel
theorem dX2_isWithSomeoneAlive_7 : decode cX2_isWithSomeoneAlive 7 = .ok (.aload_n 1, 1) := by decide +kernel
theorem dX2_isWithSomeoneAlive_8 : decode cX2_isWithSomeoneAlive 8 = .ok (.getfield 101, 3) := by decide +kernel
theorem dX2_isWithSomeoneAlive_11 : decode cX2_isWithSomeoneAlive 11 = .ok (.iload_n 2, 1) := by decide +kernel
theorem dX2_isWithSomeoneAlive_12 : decode cX2_isWithSomeoneAlive 12 = .ok (.iaload, 1) := by decide +kernel
theorem dX2_isWithSomeoneAlive_13 : decode cX2_isWithSomeoneAlive 13 = .ok (.istore_n 3, 1) := by decide +kernel
theorem dX2_isWithSomeoneAlive_14 : decode cX2_isWithSomeoneAlive 14 = .ok (.aload_n 0, 1) := by decide +kernel
theorem dX2_isWithSomeoneAlive_15 : decode cX2_isWithSomeoneAlive 15 = .ok (.getfield 11, 3) := by decide +kernel
theorem dX2_isWithSomeoneAlive_18 : decode cX2_isWithSomeoneAlive 18 = .ok (.iload_n 2, 1) := by decide +kernel
theorem dX2_isWithSomeoneAlive_19 : decode cX2_isWithSomeoneAlive 19 = .ok (.aaload, 1) := by decide +kernel
theorem dX2_isWithSomeoneAlive_20 : decode cX2_isWithSomeoneAlive 20 = .ok (.getfield 34, 3) := by decide +kernel
theorem dX2_isWithSomeoneAlive_23 : decode cX2_isWithSomeoneAlive 23 = .ok (.ifCond .eq 15, 3) := by decide +kernel
theorem dX2_isWithSomeoneAlive_26 : decode cX2_isWithSomeoneAlive 26 = .ok (.iload_n 3, 1) := by decide +kernel
theorem dX2_isWithSomeoneAlive_27 : decode cX2_isWithSomeoneAlive 27 = .ok (.iconst 2, 1) := by decide +kernel
theorem dX2_isWithSomeoneAlive_28 : decode cX2_isWithSomeoneAlive 28 = .ok (.if_icmp .eq 8, 3) := by decide +kernel
theorem dX2_isWithSomeoneAlive_31 : decode cX2_isWithSomeoneAlive 31 = .ok (.iload_n 3, 1) := by decide +kernel
theorem dX2_isWithSomeoneAlive_32 : decode cX2_isWithSomeoneAlive 32 = .ok (.iconst 1, 1) := by decide +kernel
theorem dX2_isWithSomeoneAlive_33 : decode cX2_isWithSomeoneAlive 33 = .ok (.if_icmp .ne 5, 3) := by decide +kernel
theorem dX2_isWithSomeoneAlive_36 : decode cX2_isWithSomeoneAlive 36 = .ok (.iconst 1, 1) := by decide +kernel
theorem dX2_isWithSomeoneAlive_37 : decode cX2_isWithSomeoneAlive 37 = .ok (.ireturn, 1) := by decide +kernel
theorem dX2_isWithSomeoneAlive_38 : decode cX2_isWithSomeoneAlive 38 = .ok (.iinc 2 1, 3) := by decide +kernel
theorem dX2_isWithSomeoneAlive_41 : decode cX2_isWithSomeoneAlive 41 = .ok (.goto (-39), 3) := by decide +kernel
theorem dX2_isWithSomeoneAlive_44 : decode cX2_isWithSomeoneAlive 44 = .ok (.iconst 0, 1) := by decide +kernel
theorem dX2_isWithSomeoneAlive_45 : decode cX2_isWithSomeoneAlive 45 = .ok (.ireturn, 1) := by decide +kernel
theorem dX2_followsDropped_0 : decode cX2_followsDropped 0 = .ok (.iconst 0, 1) := by decide +kernel
theorem dX2_followsDropped_1 : decode cX2_followsDropped 1 = .ok (.istore_n 2, 1) := by decide +kernel
theorem dX2_followsDropped_2 : decode cX2_followsDropped 2 = .ok (.iload_n 2, 1) := by decide +kernel
theorem dX2_followsDropped_3 : decode cX2_followsDropped 3 = .ok (.aload_n 0, 1) := by decide +kernel
theorem dX2_followsDropped_4 : decode cX2_followsDropped 4 = .ok (.getfield 21, 3) := by decide +kernel
theorem dX2_followsDropped_7 : decode cX2_followsDropped 7 = .ok (.invokevirtual 42, 3) := by decide +kernel
theorem dX2_followsDropped_10 : decode cX2_followsDropped 10 = .ok (.if_icmp .ge 46, 3) := by decide +kernel
theorem dX2_followsDropped_13 : decode cX2_followsDropped 13 = .ok (.aload_n 0, 1) := by decide +kernel
theorem dX2_followsDropped_14 : decode cX2_followsDropped 14 = .ok (.getfield 21, 3) := by decide +kernel
theorem dX2_followsDropped_17 : decode cX2_followsDropped 17 = .ok (.iload_n 2, 1) := by decide +kernel
theorem dX2_followsDropped_18 : decode cX2_followsDropped 18 = .ok (.invokevirtual 97, 3) := by decide +kernel
theorem dX2_followsDropped_21 : decode cX2_followsDropped 21 = .ok (.checkcast 53, 3) := by decide +kernel
theorem dX2_followsDropped_24 : decode cX2_followsDropped 24 = .ok (.getfield 252, 3) := by decide +kernel
theorem dX2_followsDropped_27 : decode cX2_followsDropped 27 = .ok (.ifCond .eq 23, 3) := by decide +kernel
theorem dX2_followsDropped_30 : decode cX2_followsDropped 30 = .ok (.aload_n 0, 1) := by decide +kernel
theorem dX2_followsDropped_31 : decode cX2_followsDropped 31 = .ok (.getfield 21, 3) := by decide +kernel
theorem dX2_followsDropped_34 : decode cX2_followsDropped 34 = .ok (.iload_n 2, 1) := by decide +kernel
theorem dX2_followsDropped_35 : decode cX2_followsDropped 35 = .ok (.invokevirtual 97, 3) := by decide +kernel
theorem dX2_followsDropped_38 : decode cX2_followsDropped 38 = .ok (.checkcast 53, 3) := by decide +kernel
theorem dX2_followsDropped_41 : decode cX2_followsDropped 41 = .ok (.aload_n 1, 1) := by decide +kernel
theorem dX2_followsDropped_42 : decode cX2_followsDropped 42 = .ok (.invokevirtual 120, 3) := by decide +kernel
theorem dX2_followsDropped_45 : decode cX2_followsDropped 45 = .ok (.ifCond .eq 5, 3) := by decide +kernel
theorem dX2_followsDropped_48 : decode cX2_followsDropped 48 = .ok (.iconst 1, 1) := by decide +kernel
theorem dX2_followsDropped_49 : decode cX2_followsDropped 49 = .ok (.ireturn, 1) := by decide +kernel
theorem dX2_followsDropped_50 : decode cX2_followsDropped 50 = .ok (.iinc 2 1, 3) := by decide +kernel
theorem dX2_followsDropped_53 : decode cX2_followsDropped 53 = .ok (.goto (-51), 3) := by decide +kernel
theorem dX2_followsDropped_56 : decode cX2_followsDropped 56 = .ok (.iconst 0, 1) := by decide +kernel
theorem dX2_followsDropped_57 : decode cX2_followsDropped 57 = .ok (.ireturn, 1) := by decide +kernel
theorem dX2_drop_0 : decode cX2_drop 0 = .ok (.aload_n 1, 1) := by decide +kernel
theorem dX2_drop_1 : decode cX2_drop 1 = .ok (.iconst 1, 1) := by decide +kernel
theorem dX2_drop_2 : decode cX2_drop 2 = .ok (.putfield 252, 3) := by decide +kernel
theorem dX2_drop_5 : decode cX2_drop 5 = .ok (.aload_n 1, 1) := by decide +kernel
theorem dX2_drop_6 : decode cX2_drop 6 = .ok (.getfield 101, 3) := by decide +kernel
theorem dX2_drop_9 : decode cX2_drop 9 = .ok (.iconst 4, 1) := by decide +kernel
theorem dX2_drop_10 : decode cX2_drop 10 = .ok (.invokestatic 264, 3) := by decide +kernel
theorem dX2_drop_13 : decode cX2_drop 13 = .ok (.iconst 0, 1) := by decide +kernel
theorem dX2_drop_14 : decode cX2_drop 14 = .ok (.istore_n 2, 1) := by decide +kernel
theorem dX2_drop_15 : decode cX2_drop 15 = .ok (.iload_n 2, 1) := by decide +kernel
theorem dX2_drop_16 : decode cX2_drop 16 = .ok (.iconst 4, 1) := by decide +kernel
theorem dX2_drop_17 : decode cX2_drop 17 = .ok (.if_icmp .ge 35, 3) := by decide +kernel
theorem dX2_drop_20 : decode cX2_drop 20 = .ok (.aload_n 0, 1) := by decide +kernel
theorem dX2_drop_21 : decode cX2_drop 21 = .ok (.getfield 11, 3) := by decide +kernel
theorem dX2_drop_24 : decode cX2_drop 24 = .ok (.iload_n 2, 1) := by decide +kernel
theorem dX2_drop_25 : decode cX2_drop 25 = .ok (.aaload, 1) := by decide +kernel
theorem dX2_drop_26 : decode cX2_drop 26 = .ok (.getfield 34, 3) := by decide +kernel
theorem dX2_drop_29 : decode cX2_drop 29 = .ok (.ifCond .eq 17, 3) := by decide +kernel
theorem dX2_drop_32 : decode cX2_drop 32 = .ok (.aload_n 0, 1) := by decide +kernel
theorem dX2_drop_33 : decode cX2_drop 33 = .ok (.aload_n 0, 1) := by decide +kernel
theorem dX2_drop_34 : decode cX2_drop 34 = .ok (.getfield 11, 3) := by decide +kernel
theorem dX2_drop_37 : decode cX2_drop 37 = .ok (.iload_n 2, 1) := by decide +kernel
theorem dX2_drop_38 : decode cX2_drop 38 = .ok (.aaload, 1) := by decide +kernel
theorem dX2_drop_39 : decode cX2_drop 39 = .ok (.getfield 131, 3) := by decide +kernel
theorem dX2_drop_42 : decode cX2_drop 42 = .ok (.aload_n 1, 1) := by decide +kernel
theorem dX2_drop_43 : decode cX2_drop 43 = .ok (.invokevirtual 270, 3) := by decide +kernel
theorem dX2_drop_46 : decode cX2_drop 46 = .ok (.iinc 2 1, 3) := by decide +kernel
theorem dX2_drop_49 : decode cX2_drop 49 = .ok (.goto (-34), 3) := by decide +kernel
theorem dX2_drop_52 : decode cX2_drop 52 = .ok (.aload_n 0, 1) := by decide +kernel
theorem dX2_drop_53 : decode cX2_drop 53 = .ok (.aload_n 0, 1) := by decide +kernel
theorem dX2_drop_54 : decode cX2_drop 54 = .ok (.getfield 28, 3) := by decide +kernel
theorem dX2_drop_57 : decode cX2_drop 57 = .ok (.aload_n 1, 1) := by decide +kernel
theorem dX2_drop_58 : decode cX2_drop 58 = .ok (.invokevirtual 270, 3) := by decide +kernel
theorem dX2_drop_61 : decode cX2_drop 61 = .ok (.aload_n 1, 1) := by decide +kernel
theorem dX2_drop_62 : decode cX2_drop 62 = .ok (.iconst (-1), 1) := by decide +kernel
theorem dX2_drop_63 : decode cX2_drop 63 = .ok (.putfield 168, 3) := by decide +kernel
theorem dX2_drop_66 : decode cX2_drop 66 = .ok (.aload_n 0, 1) := by decide +kernel
theorem dX2_drop_67 : decode cX2_drop 67 = .ok (.aload_n 0, 1) := by decide +kernel
theorem dX2_drop_68 : decode cX2_drop 68 = .ok (.getfield 25, 3) := by decide +kernel
theorem dX2_drop_71 : decode cX2_drop 71 = .ok (.aload_n 1, 1) := by decide +kernel
theorem dX2_drop_72 : decode cX2_drop 72 = .ok (.invokevirtual 270, 3) := by decide +kernel
theorem dX2_drop_75 : decode cX2_drop 75 = .ok (.aload_n 1, 1) := by decide +kernel
theorem dX2_drop_76 : decode cX2_drop 76 = .ok (.iconst (-1), 1) := by decide +kernel
theorem dX2_drop_77 : decode cX2_drop 77 = .ok (.putfield 156, 3) := by decide +kernel
theorem dX2_drop_80 : decode cX2_drop 80 = .ok (.iconst 0, 1) := by decide +kernel
theorem dX2_drop_81 : decode cX2_drop 81 = .ok (.istore_n 2, 1) := by decide +kernel
theorem dX2_drop_82 : decode cX2_drop 82 = .ok (.iload_n 2, 1) := by decide +kernel
theorem dX2_drop_83 : decode cX2_drop 83 = .ok (.aload_n 0, 1) := by decide +kernel
theorem dX2_drop_84 : decode cX2_drop 84 = .ok (.getfield 25, 3) := by decide +kernel
theorem dX2_drop_87 : decode cX2_drop 87 = .ok (.invokevirtual 42, 3) := by decide +kernel
theorem dX2_drop_90 : decode cX2_drop 90 = .ok (.if_icmp .ge 24, 3) := by decide +kernel
theorem dX2_drop_93 : decode cX2_drop 93 = .ok (.aload_n 0, 1) := by decide +kernel
theorem dX2_drop_94 : decode cX2_drop 94 = .ok (.getfield 25, 3) := by decide +kernel
theorem dX2_drop_97 : decode cX2_drop 97 = .ok (.iload_n 2, 1) := by decide +kernel
theorem dX2_drop_98 : decode cX2_drop 98 = .ok (.invokevirtual 97, 3) := by decide +kernel
theorem dX2_drop_101 : decode cX2_drop 101 = .ok (.checkcast 53, 3) := by decide +kernel
theorem dX2_drop_104 : decode cX2_drop 104 = .ok (.iload_n 2, 1) := by decide +kernel
theorem dX2_drop_105 : decode cX2_drop 105 = .ok (.putfield 156, 3) := by decide +kernel
theorem dX2_drop_108 : decode cX2_drop 108 = .ok (.iinc 2 1, 3) := by decide +kernel
theorem dX2_drop_111 : decode cX2_drop 111 = .ok (.goto (-29), 3) := by decide +kernel
theorem dX2_drop_114 : decode cX2_drop 114 = .ok (.return_, 1) := by decide +kernel
theorem dX2_takeOut_0 : decode cX2_takeOut 0 = .ok (.iconst 0, 1) := by decide +kernel
theorem dX2_takeOut_1 : decode cX2_takeOut 1 = .ok (.istore_n 3, 1) := by decide +kernel
theorem dX2_takeOut_2 : decode cX2_takeOut 2 = .ok (.iload_n 3, 1) := by decide +kernel
theorem dX2_takeOut_3 : decode cX2_takeOut 3 = .ok (.aload_n 1, 1) := by decide +kernel
theorem dX2_takeOut_4 : decode cX2_takeOut 4 = .ok (.invokevirtual 42, 3) := by decide +kernel
theorem dX2_takeOut_7 : decode cX2_takeOut 7 = .ok (.if_icmp .ge 25, 3) := by decide +kernel
theorem dX2_takeOut_10 : decode cX2_takeOut 10 = .ok (.aload_n 1, 1) := by decide +kernel
theorem dX2_takeOut_11 : decode cX2_takeOut 11 = .ok (.iload_n 3, 1) := by decide +kernel
theorem dX2_takeOut_12 : decode cX2_takeOut 12 = .ok (.invokevirtual 97, 3) := by decide +kernel
theorem dX2_takeOut_15 : decode cX2_takeOut 15 = .ok (.aload_n 2, 1) := by decide +kernel
theorem dX2_takeOut_16 : decode cX2_takeOut 16 = .ok (.if_acmp .ne 10, 3) := by decide +kernel
theorem dX2_takeOut_19 : decode cX2_takeOut 19 = .ok (.aload_n 1, 1) := by decide +kernel
theorem dX2_takeOut_20 : decode cX2_takeOut 20 = .ok (.iload_n 3, 1) := by decide +kernel
theorem dX2_takeOut_21 : decode cX2_takeOut 21 = .ok (.invokevirtual 215, 3) := by decide +kernel
theorem dX2_takeOut_24 : decode cX2_takeOut 24 = .ok (.pop, 1) := by decide +kernel
theorem dX2_takeOut_25 : decode cX2_takeOut 25 = .ok (.return_, 1) := by decide +kernel
theorem dX2_takeOut_26 : decode cX2_takeOut 26 = .ok (.iinc 3 1, 3) := by decide +kernel
theorem dX2_takeOut_29 : decode cX2_takeOut 29 = .ok (.goto (-27), 3) := by decide +kernel
theorem dX2_takeOut_32 : decode cX2_takeOut 32 = .ok (.return_, 1) := by decide +kernel
theorem dX2_letAllArrive_0 : decode cX2_letAllArrive 0 = .ok (.iconst 0, 1) := by decide +kernel
theorem dX2_letAllArrive_1 : decode cX2_letAllArrive 1 = .ok (.istore_n 1, 1) := by decide +kernel
theorem dX2_letAllArrive_2 : decode cX2_letAllArrive 2 = .ok (.iload_n 1, 1) := by decide +kernel
theorem dX2_letAllArrive_3 : decode cX2_letAllArrive 3 = .ok (.iconst 4, 1) := by decide +kernel
theorem dX2_letAllArrive_4 : decode cX2_letAllArrive 4 = .ok (.if_icmp .ge 88, 3) := by decide +kernel
theorem dX2_letAllArrive_7 : decode cX2_letAllArrive 7 = .ok (.iconst 0, 1) := by decide +kernel
theorem dX2_letAllArrive_8 : decode cX2_letAllArrive 8 = .ok (.istore_n 2, 1) := by decide +kernel
theorem dX2_letAllArrive_9 : decode cX2_letAllArrive 9 = .ok (.iload_n 2, 1) := by decide +kernel
theorem dX2_letAllArrive_10 : decode cX2_letAllArrive 10 = .ok (.aload_n 0, 1) := by decide +kernel
theorem dX2_letAllArrive_11 : decode cX2_letAllArrive 11 = .ok (.getfield 21, 3) := by decide +kernel
theorem dX2_letAllArrive_14 : decode cX2_letAllArrive 14 = .ok (.invokevirtual 42, 3) := by decide +kernel
theorem dX2_letAllArrive_17 : decode cX2_letAllArrive 17 = .ok (.if_icmp .ge 69, 3) := by decide +kernel
theorem dX2_letAllArrive_20 : decode cX2_letAllArrive 20 = .ok (.aload_n 0, 1) := by decide +kernel
theorem dX2_letAllArrive_21 : decode cX2_letAllArrive 21 = .ok (.getfield 21, 3) := by decide +kernel
theorem dX2_letAllArrive_24 : decode cX2_letAllArrive 24 = .ok (.iload_n 2, 1) := by decide +kernel
theorem dX2_letAllArrive_25 : decode cX2_letAllArrive 25 = .ok (.invokevirtual 97, 3) := by decide +kernel
theorem dX2_letAllArrive_28 : decode cX2_letAllArrive 28 = .ok (.checkcast 53, 3) := by decide +kernel
theorem dX2_letAllArrive_31 : decode cX2_letAllArrive 31 = .ok (.getfield 101, 3) := by decide +kernel
theorem dX2_letAllArrive_34 : decode cX2_letAllArrive 34 = .ok (.iload_n 1, 1) := by decide +kernel
theorem dX2_letAllArrive_35 : decode cX2_letAllArrive 35 = .ok (.iaload, 1) := by decide +kernel
theorem dX2_letAllArrive_36 : decode cX2_letAllArrive 36 = .ok (.istore_n 3, 1) := by decide +kernel
theorem dX2_letAllArrive_37 : decode cX2_letAllArrive 37 = .ok (.aload_n 0, 1) := by decide +kernel
theorem dX2_letAllArrive_38 : decode cX2_letAllArrive 38 = .ok (.getfield 11, 3) := by decide +kernel
theorem dX2_letAllArrive_41 : decode cX2_letAllArrive 41 = .ok (.iload_n 1, 1) := by decide +kernel
theorem dX2_letAllArrive_42 : decode cX2_letAllArrive 42 = .ok (.aaload, 1) := by decide +kernel
theorem dX2_letAllArrive_43 : decode cX2_letAllArrive 43 = .ok (.getfield 34, 3) := by decide +kernel
theorem dX2_letAllArrive_46 : decode cX2_letAllArrive 46 = .ok (.ifCond .eq 34, 3) := by decide +kernel
theorem dX2_letAllArrive_49 : decode cX2_letAllArrive 49 = .ok (.iload_n 3, 1) := by decide +kernel
theorem dX2_letAllArrive_50 : decode cX2_letAllArrive 50 = .ok (.ifCond .eq 8, 3) := by decide +kernel
theorem dX2_letAllArrive_53 : decode cX2_letAllArrive 53 = .ok (.iload_n 3, 1) := by decide +kernel
theorem dX2_letAllArrive_54 : decode cX2_letAllArrive 54 = .ok (.iconst 3, 1) := by decide +kernel
theorem dX2_letAllArrive_55 : decode cX2_letAllArrive 55 = .ok (.if_icmp .ne 25, 3) := by decide +kernel
theorem dX2_letAllArrive_58 : decode cX2_letAllArrive 58 = .ok (.aload_n 0, 1) := by decide +kernel
theorem dX2_letAllArrive_59 : decode cX2_letAllArrive 59 = .ok (.aload_n 0, 1) := by decide +kernel
theorem dX2_letAllArrive_60 : decode cX2_letAllArrive 60 = .ok (.getfield 21, 3) := by decide +kernel
theorem dX2_letAllArrive_63 : decode cX2_letAllArrive 63 = .ok (.iload_n 2, 1) := by decide +kernel
theorem dX2_letAllArrive_64 : decode cX2_letAllArrive 64 = .ok (.invokevirtual 97, 3) := by decide +kernel
theorem dX2_letAllArrive_67 : decode cX2_letAllArrive 67 = .ok (.checkcast 53, 3) := by decide +kernel
theorem dX2_letAllArrive_70 : decode cX2_letAllArrive 70 = .ok (.aload_n 0, 1) := by decide +kernel
theorem dX2_letAllArrive_71 : decode cX2_letAllArrive 71 = .ok (.getfield 11, 3) := by decide +kernel
theorem dX2_letAllArrive_74 : decode cX2_letAllArrive 74 = .ok (.iload_n 1, 1) := by decide +kernel
theorem dX2_letAllArrive_75 : decode cX2_letAllArrive 75 = .ok (.aaload, 1) := by decide +kernel
theorem dX2_letAllArrive_76 : decode cX2_letAllArrive 76 = .ok (.invokevirtual 106, 3) := by decide +kernel
theorem dX2_letAllArrive_79 : decode cX2_letAllArrive 79 = .ok (.pop, 1) := by decide +kernel
theorem dX2_letAllArrive_80 : decode cX2_letAllArrive 80 = .ok (.iinc 2 1, 3) := by decide +kernel
theorem dX2_letAllArrive_83 : decode cX2_letAllArrive 83 = .ok (.goto (-74), 3) := by decide +kernel
theorem dX2_letAllArrive_86 : decode cX2_letAllArrive 86 = .ok (.iinc 1 1, 3) := by decide +kernel
theorem dX2_letAllArrive_89 : decode cX2_letAllArrive 89 = .ok (.goto (-87), 3) := by decide +kernel
theorem dX2_letAllArrive_92 : decode cX2_letAllArrive 92 = .ok (.return_, 1) := by decide +kernel
theorem dX2_changeView_0 : decode cX2_changeView 0 = .ok (.iconst 0, 1) := by decide +kernel
theorem dX2_changeView_1 : decode cX2_changeView 1 = .ok (.istore_n 1, 1) := by decide +kernel
theorem dX2_changeView_2 : decode cX2_changeView 2 = .ok (.iload_n 1, 1) := by decide +kernel
theorem dX2_changeView_3 : decode cX2_changeView 3 = .ok (.iconst 4, 1) := by decide +kernel
theorem dX2_changeView_4 : decode cX2_changeView 4 = .ok (.if_icmp .ge 27, 3) := by decide +kernel
theorem dX2_changeView_7 : decode cX2_changeView 7 = .ok (.aload_n 0, 1) := by decide +kernel
theorem dX2_changeView_8 : decode cX2_changeView 8 = .ok (.getfield 11, 3) := by decide +kernel
theorem dX2_changeView_11 : decode cX2_changeView 11 = .ok (.iload_n 1, 1) := by decide +kernel
theorem dX2_changeView_12 : decode cX2_changeView 12 = .ok (.aaload, 1) := by decide +kernel
theorem dX2_changeView_13 : decode cX2_changeView 13 = .ok (.aload_n 0, 1) := by decide +kernel
theorem dX2_changeView_14 : decode cX2_changeView 14 = .ok (.getfield 11, 3) := by decide +kernel
theorem dX2_changeView_17 : decode cX2_changeView 17 = .ok (.iload_n 1, 1) := by decide +kernel
theorem dX2_changeView_18 : decode cX2_changeView 18 = .ok (.aaload, 1) := by decide +kernel
theorem dX2_changeView_19 : decode cX2_changeView 19 = .ok (.getfield 34, 3) := by decide +kernel
theorem dX2_changeView_22 : decode cX2_changeView 22 = .ok (.putfield 202, 3) := by decide +kernel
theorem dX2_changeView_25 : decode cX2_changeView 25 = .ok (.iinc 1 1, 3) := by decide +kernel
theorem dX2_changeView_28 : decode cX2_changeView 28 = .ok (.goto (-26), 3) := by decide +kernel
theorem dX2_changeView_31 : decode cX2_changeView 31 = .ok (.aload_n 0, 1) := by decide +kernel
theorem dX2_changeView_32 : decode cX2_changeView 32 = .ok (.dup, 1) := by decide +kernel
theorem dX2_changeView_33 : decode cX2_changeView 33 = .ok (.getfield 190, 3) := by decide +kernel
theorem dX2_changeView_36 : decode cX2_changeView 36 = .ok (.iconst 1, 1) := by decide +kernel
theorem dX2_changeView_37 : decode cX2_changeView 37 = .ok (.iadd, 1) := by decide +kernel
theorem dX2_changeView_38 : decode cX2_changeView 38 = .ok (.putfield 190, 3) := by decide +kernel
theorem dX2_changeView_41 : decode cX2_changeView 41 = .ok (.aload_n 0, 1) := by decide +kernel
theorem dX2_changeView_42 : decode cX2_changeView 42 = .ok (.getfield 11, 3) := by decide +kernel
theorem dX2_changeView_45 : decode cX2_changeView 45 = .ok (.aload_n 0, 1) := by decide +kernel
theorem dX2_changeView_46 : decode cX2_changeView 46 = .ok (.getfield 138, 3) := by decide +kernel
theorem dX2_changeView_49 : decode cX2_changeView 49 = .ok (.aaload, 1) := by decide +kernel
theorem dX2_changeView_50 : decode cX2_changeView 50 = .ok (.getfield 34, 3) := by decide +kernel
theorem dX2_changeView_53 : decode cX2_changeView 53 = .ok (.ifCond .ne 12, 3) := by decide +kernel
theorem dX2_changeView_56 : decode cX2_changeView 56 = .ok (.aload_n 0, 1) := by decide +kernel
theorem dX2_changeView_57 : decode cX2_changeView 57 = .ok (.aload_n 0, 1) := by decide +kernel
theorem dX2_changeView_58 : decode cX2_changeView 58 = .ok (.invokevirtual 274, 3) := by decide +kernel
theorem dX2_changeView_61 : decode cX2_changeView 61 = .ok (.invokevirtual 147, 3) := by decide +kernel
theorem dX2_changeView_64 : decode cX2_changeView 64 = .ok (.pop, 1) := by decide +kernel
theorem dX2_changeView_65 : decode cX2_changeView 65 = .ok (.iconst 0, 1) := by decide +kernel
theorem dX2_changeView_66 : decode cX2_changeView 66 = .ok (.istore_n 1, 1) := by decide +kernel
theorem dX2_changeView_67 : decode cX2_changeView 67 = .ok (.iload_n 1, 1) := by decide +kernel
theorem dX2_changeView_68 : decode cX2_changeView 68 = .ok (.iconst 4, 1) := by decide +kernel
theorem dX2_changeView_69 : decode cX2_changeView 69 = .ok (.if_icmp .ge 37, 3) := by decide +kernel
theorem dX2_changeView_72 : decode cX2_changeView 72 = .ok (.aload_n 0, 1) := by decide +kernel
theorem dX2_changeView_73 : decode cX2_changeView 73 = .ok (.getfield 11, 3) := by decide +kernel
theorem dX2_changeView_76 : decode cX2_changeView 76 = .ok (.iload_n 1, 1) := by decide +kernel
theorem dX2_changeView_77 : decode cX2_changeView 77 = .ok (.aaload, 1) := by decide +kernel
theorem dX2_changeView_78 : decode cX2_changeView 78 = .ok (.getfield 34, 3) := by decide +kernel
theorem dX2_changeView_81 : decode cX2_changeView 81 = .ok (.ifCond .eq 19, 3) := by decide +kernel
theorem dX2_changeView_84 : decode cX2_changeView 84 = .ok (.aload_n 0, 1) := by decide +kernel
theorem dX2_changeView_85 : decode cX2_changeView 85 = .ok (.getfield 11, 3) := by decide +kernel
theorem dX2_changeView_88 : decode cX2_changeView 88 = .ok (.iload_n 1, 1) := by decide +kernel
theorem dX2_changeView_89 : decode cX2_changeView 89 = .ok (.aaload, 1) := by decide +kernel
theorem dX2_changeView_90 : decode cX2_changeView 90 = .ok (.aload_n 0, 1) := by decide +kernel
theorem dX2_changeView_91 : decode cX2_changeView 91 = .ok (.getfield 25, 3) := by decide +kernel
theorem dX2_changeView_94 : decode cX2_changeView 94 = .ok (.invokevirtual 42, 3) := by decide +kernel
theorem dX2_changeView_97 : decode cX2_changeView 97 = .ok (.putfield 153, 3) := by decide +kernel
theorem dX2_changeView_100 : decode cX2_changeView 100 = .ok (.iinc 1 1, 3) := by decide +kernel
theorem dX2_changeView_103 : decode cX2_changeView 103 = .ok (.goto (-36), 3) := by decide +kernel
theorem dX2_changeView_106 : decode cX2_changeView 106 = .ok (.return_, 1) := by decide +kernel
theorem dX2_leastAlive_0 : decode cX2_leastAlive 0 = .ok (.iconst 0, 1) := by decide +kernel
theorem dX2_leastAlive_1 : decode cX2_leastAlive 1 = .ok (.istore_n 1, 1) := by decide +kernel
theorem dX2_leastAlive_2 : decode cX2_leastAlive 2 = .ok (.iload_n 1, 1) := by decide +kernel
theorem dX2_leastAlive_3 : decode cX2_leastAlive 3 = .ok (.iconst 4, 1) := by decide +kernel
theorem dX2_leastAlive_4 : decode cX2_leastAlive 4 = .ok (.if_icmp .ge 28, 3) := by decide +kernel
theorem dX2_leastAlive_7 : decode cX2_leastAlive 7 = .ok (.aload_n 0, 1) := by decide +kernel
theorem dX2_leastAlive_8 : decode cX2_leastAlive 8 = .ok (.getfield 11, 3) := by decide +kernel
theorem dX2_leastAlive_11 : decode cX2_leastAlive 11 = .ok (.iload_n 1, 1) := by decide +kernel
theorem dX2_leastAlive_12 : decode cX2_leastAlive 12 = .ok (.aaload, 1) := by decide +kernel
theorem dX2_leastAlive_13 : decode cX2_leastAlive 13 = .ok (.getfield 34, 3) := by decide +kernel
theorem dX2_leastAlive_16 : decode cX2_leastAlive 16 = .ok (.ifCond .eq 10, 3) := by decide +kernel
theorem dX2_leastAlive_19 : decode cX2_leastAlive 19 = .ok (.aload_n 0, 1) := by decide +kernel
theorem dX2_leastAlive_20 : decode cX2_leastAlive 20 = .ok (.getfield 11, 3) := by decide +kernel
theorem dX2_leastAlive_23 : decode cX2_leastAlive 23 = .ok (.iload_n 1, 1) := by decide +kernel
theorem dX2_leastAlive_24 : decode cX2_leastAlive 24 = .ok (.aaload, 1) := by decide +kernel
theorem dX2_leastAlive_25 : decode cX2_leastAlive 25 = .ok (.areturn, 1) := by decide +kernel
theorem dX2_leastAlive_26 : decode cX2_leastAlive 26 = .ok (.iinc 1 1, 3) := by decide +kernel
theorem dX2_leastAlive_29 : decode cX2_leastAlive 29 = .ok (.goto (-27), 3) := by decide +kernel
theorem dX2_leastAlive_32 : decode cX2_leastAlive 32 = .ok (.aload_n 0, 1) := by decide +kernel
theorem dX2_leastAlive_33 : decode cX2_leastAlive 33 = .ok (.getfield 11, 3) := by decide +kernel
theorem dX2_leastAlive_36 : decode cX2_leastAlive 36 = .ok (.aload_n 0, 1) := by decide +kernel
theorem dX2_leastAlive_37 : decode cX2_leastAlive 37 = .ok (.getfield 138, 3) := by decide +kernel
theorem dX2_leastAlive_40 : decode cX2_leastAlive 40 = .ok (.aaload, 1) := by decide +kernel
theorem dX2_leastAlive_41 : decode cX2_leastAlive 41 = .ok (.areturn, 1) := by decide +kernel
theorem dX2_agreeOnTheRest_0 : decode cX2_agreeOnTheRest 0 = .ok (.iconst 0, 1) := by decide +kernel
theorem dX2_agreeOnTheRest_1 : decode cX2_agreeOnTheRest 1 = .ok (.istore_n 1, 1) := by decide +kernel
theorem dX2_agreeOnTheRest_2 : decode cX2_agreeOnTheRest 2 = .ok (.iload_n 1, 1) := by decide +kernel
theorem dX2_agreeOnTheRest_3 : decode cX2_agreeOnTheRest 3 = .ok (.aload_n 0, 1) := by decide +kernel
theorem dX2_agreeOnTheRest_4 : decode cX2_agreeOnTheRest 4 = .ok (.getfield 21, 3) := by decide +kernel
theorem dX2_agreeOnTheRest_7 : decode cX2_agreeOnTheRest 7 = .ok (.invokevirtual 42, 3) := by decide +kernel
theorem dX2_agreeOnTheRest_10 : decode cX2_agreeOnTheRest 10 = .ok (.if_icmp .ge 30, 3) := by decide +kernel
theorem dX2_agreeOnTheRest_13 : decode cX2_agreeOnTheRest 13 = .ok (.aload_n 0, 1) := by decide +kernel
theorem dX2_agreeOnTheRest_14 : decode cX2_agreeOnTheRest 14 = .ok (.invokevirtual 278, 3) := by decide +kernel
theorem dX2_agreeOnTheRest_17 : decode cX2_agreeOnTheRest 17 = .ok (.astore_n 2, 1) := by decide +kernel
theorem dX2_agreeOnTheRest_18 : decode cX2_agreeOnTheRest 18 = .ok (.aload_n 2, 1) := by decide +kernel
theorem dX2_agreeOnTheRest_19 : decode cX2_agreeOnTheRest 19 = .ok (.ifnonnull 4, 3) := by decide +kernel
theorem dX2_agreeOnTheRest_22 : decode cX2_agreeOnTheRest 22 = .ok (.return_, 1) := by decide +kernel
theorem dX2_agreeOnTheRest_23 : decode cX2_agreeOnTheRest 23 = .ok (.aload_n 0, 1) := by decide +kernel
theorem dX2_agreeOnTheRest_24 : decode cX2_agreeOnTheRest 24 = .ok (.aload_n 2, 1) := by decide +kernel
theorem dX2_agreeOnTheRest_25 : decode cX2_agreeOnTheRest 25 = .ok (.aload_n 0, 1) := by decide +kernel
theorem dX2_agreeOnTheRest_26 : decode cX2_agreeOnTheRest 26 = .ok (.getfield 236, 3) := by decide +kernel
theorem dX2_agreeOnTheRest_29 : decode cX2_agreeOnTheRest 29 = .ok (.iconst 1, 1) := by decide +kernel
theorem dX2_agreeOnTheRest_30 : decode cX2_agreeOnTheRest 30 = .ok (.iadd, 1) := by decide +kernel
theorem dX2_agreeOnTheRest_31 : decode cX2_agreeOnTheRest 31 = .ok (.invokevirtual 248, 3) := by decide +kernel
theorem dX2_agreeOnTheRest_34 : decode cX2_agreeOnTheRest 34 = .ok (.iinc 1 1, 3) := by decide +kernel
theorem dX2_agreeOnTheRest_37 : decode cX2_agreeOnTheRest 37 = .ok (.goto (-35), 3) := by decide +kernel
theorem dX2_agreeOnTheRest_40 : decode cX2_agreeOnTheRest 40 = .ok (.return_, 1) := by decide +kernel
theorem dX2_nextToAgreeOn_0 : decode cX2_nextToAgreeOn 0 = .ok (.aconst_null, 1) := by decide +kernel
theorem dX2_nextToAgreeOn_1 : decode cX2_nextToAgreeOn 1 = .ok (.astore_n 1, 1) := by decide +kernel
theorem dX2_nextToAgreeOn_2 : decode cX2_nextToAgreeOn 2 = .ok (.iconst 0, 1) := by decide +kernel
theorem dX2_nextToAgreeOn_3 : decode cX2_nextToAgreeOn 3 = .ok (.istore_n 2, 1) := by decide +kernel
theorem dX2_nextToAgreeOn_4 : decode cX2_nextToAgreeOn 4 = .ok (.iload_n 2, 1) := by decide +kernel
theorem dX2_nextToAgreeOn_5 : decode cX2_nextToAgreeOn 5 = .ok (.aload_n 0, 1) := by decide +kernel
theorem dX2_nextToAgreeOn_6 : decode cX2_nextToAgreeOn 6 = .ok (.getfield 21, 3) := by decide +kernel
theorem dX2_nextToAgreeOn_9 : decode cX2_nextToAgreeOn 9 = .ok (.invokevirtual 42, 3) := by decide +kernel
theorem dX2_nextToAgreeOn_12 : decode cX2_nextToAgreeOn 12 = .ok (.if_icmp .ge 65, 3) := by decide +kernel
theorem dX2_nextToAgreeOn_15 : decode cX2_nextToAgreeOn 15 = .ok (.aload_n 0, 1) := by decide +kernel
theorem dX2_nextToAgreeOn_16 : decode cX2_nextToAgreeOn 16 = .ok (.getfield 21, 3) := by decide +kernel
theorem dX2_nextToAgreeOn_19 : decode cX2_nextToAgreeOn 19 = .ok (.iload_n 2, 1) := by decide +kernel
theorem dX2_nextToAgreeOn_20 : decode cX2_nextToAgreeOn 20 = .ok (.invokevirtual 97, 3) := by decide +kernel
theorem dX2_nextToAgreeOn_23 : decode cX2_nextToAgreeOn 23 = .ok (.checkcast 53, 3) := by decide +kernel
theorem dX2_nextToAgreeOn_26 : decode cX2_nextToAgreeOn 26 = .ok (.astore_n 3, 1) := by decide +kernel
theorem dX2_nextToAgreeOn_27 : decode cX2_nextToAgreeOn 27 = .ok (.aload_n 3, 1) := by decide +kernel
theorem dX2_nextToAgreeOn_28 : decode cX2_nextToAgreeOn 28 = .ok (.getfield 252, 3) := by decide +kernel
theorem dX2_nextToAgreeOn_31 : decode cX2_nextToAgreeOn 31 = .ok (.ifCond .ne 15, 3) := by decide +kernel
theorem dX2_nextToAgreeOn_34 : decode cX2_nextToAgreeOn 34 = .ok (.aload_n 3, 1) := by decide +kernel
theorem dX2_nextToAgreeOn_35 : decode cX2_nextToAgreeOn 35 = .ok (.getfield 168, 3) := by decide +kernel
theorem dX2_nextToAgreeOn_38 : decode cX2_nextToAgreeOn 38 = .ok (.iconst (-1), 1) := by decide +kernel
theorem dX2_nextToAgreeOn_39 : decode cX2_nextToAgreeOn 39 = .ok (.if_icmp .ne 7, 3) := by decide +kernel
theorem dX2_nextToAgreeOn_42 : decode cX2_nextToAgreeOn 42 = .ok (.iconst 1, 1) := by decide +kernel
theorem dX2_nextToAgreeOn_43 : decode cX2_nextToAgreeOn 43 = .ok (.goto 4, 3) := by decide +kernel
theorem dX2_nextToAgreeOn_46 : decode cX2_nextToAgreeOn 46 = .ok (.iconst 0, 1) := by decide +kernel
theorem dX2_nextToAgreeOn_47 : decode cX2_nextToAgreeOn 47 = .ok (.istore 4, 2) := by decide +kernel
theorem dX2_nextToAgreeOn_49 : decode cX2_nextToAgreeOn 49 = .ok (.iload 4, 2) := by decide +kernel
theorem dX2_nextToAgreeOn_51 : decode cX2_nextToAgreeOn 51 = .ok (.ifCond .eq 20, 3) := by decide +kernel
theorem dX2_nextToAgreeOn_54 : decode cX2_nextToAgreeOn 54 = .ok (.aload_n 1, 1) := by decide +kernel
theorem dX2_nextToAgreeOn_55 : decode cX2_nextToAgreeOn 55 = .ok (.ifnull 14, 3) := by decide +kernel
theorem dX2_nextToAgreeOn_58 : decode cX2_nextToAgreeOn 58 = .ok (.aload_n 3, 1) := by decide +kernel
theorem dX2_nextToAgreeOn_59 : decode cX2_nextToAgreeOn 59 = .ok (.invokevirtual 245, 3) := by decide +kernel
theorem dX2_nextToAgreeOn_62 : decode cX2_nextToAgreeOn 62 = .ok (.aload_n 1, 1) := by decide +kernel
theorem dX2_nextToAgreeOn_63 : decode cX2_nextToAgreeOn 63 = .ok (.invokevirtual 245, 3) := by decide +kernel
theorem dX2_nextToAgreeOn_66 : decode cX2_nextToAgreeOn 66 = .ok (.if_icmp .ge 5, 3) := by decide +kernel
theorem dX2_nextToAgreeOn_69 : decode cX2_nextToAgreeOn 69 = .ok (.aload_n 3, 1) := by decide +kernel
theorem dX2_nextToAgreeOn_70 : decode cX2_nextToAgreeOn 70 = .ok (.astore_n 1, 1) := by decide +kernel
theorem dX2_nextToAgreeOn_71 : decode cX2_nextToAgreeOn 71 = .ok (.iinc 2 1, 3) := by decide +kernel
theorem dX2_nextToAgreeOn_74 : decode cX2_nextToAgreeOn 74 = .ok (.goto (-70), 3) := by decide +kernel
theorem dX2_nextToAgreeOn_77 : decode cX2_nextToAgreeOn 77 = .ok (.aload_n 1, 1) := by decide +kernel
theorem dX2_nextToAgreeOn_78 : decode cX2_nextToAgreeOn 78 = .ok (.areturn, 1) := by decide +kernel
theorem dJ9_max_7cf53_0 : decode cJ9_max_7cf53 0 = .ok (.iload_n 0, 1) := by decide +kernel
theorem dJ9_max_7cf53_1 : decode cJ9_max_7cf53 1 = .ok (.iload_n 1, 1) := by decide +kernel
theorem dJ9_max_7cf53_2 : decode cJ9_max_7cf53 2 = .ok (.if_icmp .lt 7, 3) := by decide +kernel
theorem dJ9_max_7cf53_5 : decode cJ9_max_7cf53 5 = .ok (.iload_n 0, 1) := by decide +kernel
theorem dJ9_max_7cf53_6 : decode cJ9_max_7cf53 6 = .ok (.goto 4, 3) := by decide +kernel
theorem dJ9_max_7cf53_9 : decode cJ9_max_7cf53 9 = .ok (.iload_n 1, 1) := by decide +kernel
theorem dJ9_max_7cf53_10 : decode cJ9_max_7cf53 10 = .ok (.ireturn, 1) := by decide +kernel
theorem dJ9_min_7cf53_0 : decode cJ9_min_7cf53 0 = .ok (.iload_n 0, 1) := by decide +kernel
theorem dJ9_min_7cf53_1 : decode cJ9_min_7cf53 1 = .ok (.iload_n 1, 1) := by decide +kernel
theorem dJ9_min_7cf53_2 : decode cJ9_min_7cf53 2 = .ok (.if_icmp .gt 7, 3) := by decide +kernel
theorem dJ9_min_7cf53_5 : decode cJ9_min_7cf53 5 = .ok (.iload_n 0, 1) := by decide +kernel
theorem dJ9_min_7cf53_6 : decode cJ9_min_7cf53 6 = .ok (.goto 4, 3) := by decide +kernel
theorem dJ9_min_7cf53_9 : decode cJ9_min_7cf53 9 = .ok (.iload_n 1, 1) := by decide +kernel
theorem dJ9_min_7cf53_10 : decode cJ9_min_7cf53 10 = .ok (.ireturn, 1) := by decide +kernel
theorem dJxa1e45_init_da8c8_0 : decode cJxa1e45_init_da8c8 0 = .ok (.aload_n 0, 1) := by decide +kernel
theorem dJxa1e45_init_da8c8_1 : decode cJxa1e45_init_da8c8 1 = .ok (.invokespecial 1, 3) := by decide +kernel
theorem dJxa1e45_init_da8c8_4 : decode cJxa1e45_init_da8c8 4 = .ok (.return_, 1) := by decide +kernel
theorem dJxc12de_init_da8c8_0 : decode cJxc12de_init_da8c8 0 = .ok (.aload_n 0, 1) := by decide +kernel
theorem dJxc12de_init_da8c8_1 : decode cJxc12de_init_da8c8 1 = .ok (.invokespecial 1, 3) := by decide +kernel
theorem dJxc12de_init_da8c8_4 : decode cJxc12de_init_da8c8 4 = .ok (.aload_n 0, 1) := by decide +kernel
theorem dJxc12de_init_da8c8_5 : decode cJxc12de_init_da8c8 5 = .ok (.iconst 0, 1) := by decide +kernel
theorem dJxc12de_init_da8c8_6 : decode cJxc12de_init_da8c8 6 = .ok (.putfield 7, 3) := by decide +kernel
theorem dJxc12de_init_da8c8_9 : decode cJxc12de_init_da8c8 9 = .ok (.return_, 1) := by decide +kernel
theorem dJx4a65c_init_da8c8_0 : decode cJx4a65c_init_da8c8 0 = .ok (.aload_n 0, 1) := by decide +kernel
theorem dJx4a65c_init_da8c8_1 : decode cJx4a65c_init_da8c8 1 = .ok (.invokespecial 1, 3) := by decide +kernel
theorem dJx4a65c_init_da8c8_4 : decode cJx4a65c_init_da8c8 4 = .ok (.aload_n 0, 1) := by decide +kernel
theorem dJx4a65c_init_da8c8_5 : decode cJx4a65c_init_da8c8 5 = .ok (.getstatic 39, 3) := by decide +kernel
theorem dJx4a65c_init_da8c8_8 : decode cJx4a65c_init_da8c8 8 = .ok (.putfield 9, 3) := by decide +kernel
theorem dJx4a65c_init_da8c8_11 : decode cJx4a65c_init_da8c8 11 = .ok (.return_, 1) := by decide +kernel
theorem dJx4a65c_grow_92f84_0 : decode cJx4a65c_grow_92f84 0 = .ok (.aload_n 0, 1) := by decide +kernel
theorem dJx4a65c_grow_92f84_1 : decode cJx4a65c_grow_92f84 1 = .ok (.getfield 9, 3) := by decide +kernel
theorem dJx4a65c_grow_92f84_4 : decode cJx4a65c_grow_92f84 4 = .ok (.arraylength, 1) := by decide +kernel
theorem dJx4a65c_grow_92f84_5 : decode cJx4a65c_grow_92f84 5 = .ok (.istore_n 2, 1) := by decide +kernel
theorem dJx4a65c_grow_92f84_6 : decode cJx4a65c_grow_92f84 6 = .ok (.iload_n 2, 1) := by decide +kernel
theorem dJx4a65c_grow_92f84_7 : decode cJx4a65c_grow_92f84 7 = .ok (.ifCond .gt 13, 3) := by decide +kernel
theorem dJx4a65c_grow_92f84_10 : decode cJx4a65c_grow_92f84 10 = .ok (.aload_n 0, 1) := by decide +kernel
theorem dJx4a65c_grow_92f84_11 : decode cJx4a65c_grow_92f84 11 = .ok (.getfield 9, 3) := by decide +kernel
theorem dJx4a65c_grow_92f84_14 : decode cJx4a65c_grow_92f84 14 = .ok (.getstatic 39, 3) := by decide +kernel
theorem dJx4a65c_grow_92f84_17 : decode cJx4a65c_grow_92f84 17 = .ok (.if_acmp .eq 28, 3) := by decide +kernel
theorem dJx4a65c_grow_92f84_20 : decode cJx4a65c_grow_92f84 20 = .ok (.iload_n 2, 1) := by decide +kernel
theorem dJx4a65c_grow_92f84_21 : decode cJx4a65c_grow_92f84 21 = .ok (.iload_n 1, 1) := by decide +kernel
theorem dJx4a65c_grow_92f84_22 : decode cJx4a65c_grow_92f84 22 = .ok (.iload_n 2, 1) := by decide +kernel
theorem dJx4a65c_grow_92f84_23 : decode cJx4a65c_grow_92f84 23 = .ok (.isub, 1) := by decide +kernel
theorem dJx4a65c_grow_92f84_24 : decode cJx4a65c_grow_92f84 24 = .ok (.iload_n 2, 1) := by decide +kernel
theorem dJx4a65c_grow_92f84_25 : decode cJx4a65c_grow_92f84 25 = .ok (.iconst 1, 1) := by decide +kernel
theorem dJx4a65c_grow_92f84_26 : decode cJx4a65c_grow_92f84 26 = .ok (.ishr, 1) := by decide +kernel
theorem dJx4a65c_grow_92f84_27 : decode cJx4a65c_grow_92f84 27 = .ok (.invokestatic 73, 3) := by decide +kernel
theorem dJx4a65c_grow_92f84_30 : decode cJx4a65c_grow_92f84 30 = .ok (.istore_n 3, 1) := by decide +kernel
theorem dJx4a65c_grow_92f84_31 : decode cJx4a65c_grow_92f84 31 = .ok (.aload_n 0, 1) := by decide +kernel
theorem dJx4a65c_grow_92f84_32 : decode cJx4a65c_grow_92f84 32 = .ok (.aload_n 0, 1) := by decide +kernel
theorem dJx4a65c_grow_92f84_33 : decode cJx4a65c_grow_92f84 33 = .ok (.getfield 9, 3) := by decide +kernel
theorem dJx4a65c_grow_92f84_36 : decode cJx4a65c_grow_92f84 36 = .ok (.iload_n 3, 1) := by decide +kernel
theorem dJx4a65c_grow_92f84_37 : decode cJx4a65c_grow_92f84 37 = .ok (.invokestatic 66, 3) := by decide +kernel
theorem dJx4a65c_grow_92f84_40 : decode cJx4a65c_grow_92f84 40 = .ok (.dup_x1, 1) := by decide +kernel
theorem dJx4a65c_grow_92f84_41 : decode cJx4a65c_grow_92f84 41 = .ok (.putfield 9, 3) := by decide +kernel
theorem dJx4a65c_grow_92f84_44 : decode cJx4a65c_grow_92f84 44 = .ok (.areturn, 1) := by decide +kernel
theorem dJx4a65c_grow_92f84_45 : decode cJx4a65c_grow_92f84 45 = .ok (.aload_n 0, 1) := by decide +kernel
theorem dJx4a65c_grow_92f84_46 : decode cJx4a65c_grow_92f84 46 = .ok (.bipush 10, 2) := by decide +kernel
theorem dJx4a65c_grow_92f84_48 : decode cJx4a65c_grow_92f84 48 = .ok (.iload_n 1, 1) := by decide +kernel
theorem dJx4a65c_grow_92f84_49 : decode cJx4a65c_grow_92f84 49 = .ok (.invokestatic 79, 3) := by decide +kernel
theorem dJx4a65c_grow_92f84_52 : decode cJx4a65c_grow_92f84 52 = .ok (.anewarray 7, 3) := by decide +kernel
theorem dJx4a65c_grow_92f84_55 : decode cJx4a65c_grow_92f84 55 = .ok (.dup_x1, 1) := by decide +kernel
theorem dJx4a65c_grow_92f84_56 : decode cJx4a65c_grow_92f84 56 = .ok (.putfield 9, 3) := by decide +kernel
theorem dJx4a65c_grow_92f84_59 : decode cJx4a65c_grow_92f84 59 = .ok (.areturn, 1) := by decide +kernel
theorem dJx4a65c_grow_d5877_0 : decode cJx4a65c_grow_d5877 0 = .ok (.aload_n 0, 1) := by decide +kernel
theorem dJx4a65c_grow_d5877_1 : decode cJx4a65c_grow_d5877 1 = .ok (.aload_n 0, 1) := by decide +kernel
theorem dJx4a65c_grow_d5877_2 : decode cJx4a65c_grow_d5877 2 = .ok (.getfield 48, 3) := by decide +kernel
theorem dJx4a65c_grow_d5877_5 : decode cJx4a65c_grow_d5877 5 = .ok (.iconst 1, 1) := by decide +kernel
theorem dJx4a65c_grow_d5877_6 : decode cJx4a65c_grow_d5877 6 = .ok (.iadd, 1) := by decide +kernel
theorem dJx4a65c_grow_d5877_7 : decode cJx4a65c_grow_d5877 7 = .ok (.invokevirtual 69, 3) := by decide +kernel
theorem dJx4a65c_grow_d5877_10 : decode cJx4a65c_grow_d5877 10 = .ok (.areturn, 1) := by decide +kernel
theorem dJx4a65c_size_8abf5_0 : decode cJx4a65c_size_8abf5 0 = .ok (.aload_n 0, 1) := by decide +kernel
theorem dJx4a65c_size_8abf5_1 : decode cJx4a65c_size_8abf5 1 = .ok (.getfield 48, 3) := by decide +kernel
theorem dJx4a65c_size_8abf5_4 : decode cJx4a65c_size_8abf5 4 = .ok (.ireturn, 1) := by decide +kernel
theorem dJx4a65c_elementData_915e3_0 : decode cJx4a65c_elementData_915e3 0 = .ok (.aload_n 0, 1) := by decide +kernel
theorem dJx4a65c_elementData_915e3_1 : decode cJx4a65c_elementData_915e3 1 = .ok (.getfield 9, 3) := by decide +kernel
theorem dJx4a65c_elementData_915e3_4 : decode cJx4a65c_elementData_915e3 4 = .ok (.iload_n 1, 1) := by decide +kernel
theorem dJx4a65c_elementData_915e3_5 : decode cJx4a65c_elementData_915e3 5 = .ok (.aaload, 1) := by decide +kernel
theorem dJx4a65c_elementData_915e3_6 : decode cJx4a65c_elementData_915e3 6 = .ok (.areturn, 1) := by decide +kernel
theorem dJx4a65c_get_915e3_0 : decode cJx4a65c_get_915e3 0 = .ok (.iload_n 1, 1) := by decide +kernel
theorem dJx4a65c_get_915e3_1 : decode cJx4a65c_get_915e3 1 = .ok (.aload_n 0, 1) := by decide +kernel
theorem dJx4a65c_get_915e3_2 : decode cJx4a65c_get_915e3 2 = .ok (.getfield 48, 3) := by decide +kernel
theorem dJx4a65c_get_915e3_5 : decode cJx4a65c_get_915e3 5 = .ok (.invokestatic 118, 3) := by decide +kernel
theorem dJx4a65c_get_915e3_8 : decode cJx4a65c_get_915e3 8 = .ok (.pop, 1) := by decide +kernel
theorem dJx4a65c_get_915e3_9 : decode cJx4a65c_get_915e3 9 = .ok (.aload_n 0, 1) := by decide +kernel
theorem dJx4a65c_get_915e3_10 : decode cJx4a65c_get_915e3 10 = .ok (.iload_n 1, 1) := by decide +kernel
theorem dJx4a65c_get_915e3_11 : decode cJx4a65c_get_915e3 11 = .ok (.invokevirtual 123, 3) := by decide +kernel
theorem dJx4a65c_get_915e3_14 : decode cJx4a65c_get_915e3 14 = .ok (.areturn, 1) := by decide +kernel
theorem dJx4a65c_add_72be8_0 : decode cJx4a65c_add_72be8 0 = .ok (.iload_n 3, 1) := by decide +kernel
theorem dJx4a65c_add_72be8_1 : decode cJx4a65c_add_72be8 1 = .ok (.aload_n 2, 1) := by decide +kernel
theorem dJx4a65c_add_72be8_2 : decode cJx4a65c_add_72be8 2 = .ok (.arraylength, 1) := by decide +kernel
theorem dJx4a65c_add_72be8_3 : decode cJx4a65c_add_72be8 3 = .ok (.if_icmp .ne 8, 3) := by decide +kernel
theorem dJx4a65c_add_72be8_6 : decode cJx4a65c_add_72be8 6 = .ok (.aload_n 0, 1) := by decide +kernel
theorem dJx4a65c_add_72be8_7 : decode cJx4a65c_add_72be8 7 = .ok (.invokevirtual 129, 3) := by decide +kernel
theorem dJx4a65c_add_72be8_10 : decode cJx4a65c_add_72be8 10 = .ok (.astore_n 2, 1) := by decide +kernel
theorem dJx4a65c_add_72be8_11 : decode cJx4a65c_add_72be8 11 = .ok (.aload_n 2, 1) := by decide +kernel
theorem dJx4a65c_add_72be8_12 : decode cJx4a65c_add_72be8 12 = .ok (.iload_n 3, 1) := by decide +kernel
theorem dJx4a65c_add_72be8_13 : decode cJx4a65c_add_72be8 13 = .ok (.aload_n 1, 1) := by decide +kernel
theorem dJx4a65c_add_72be8_14 : decode cJx4a65c_add_72be8 14 = .ok (.aastore, 1) := by decide +kernel
theorem dJx4a65c_add_72be8_15 : decode cJx4a65c_add_72be8 15 = .ok (.aload_n 0, 1) := by decide +kernel
theorem dJx4a65c_add_72be8_16 : decode cJx4a65c_add_72be8 16 = .ok (.iload_n 3, 1) := by decide +kernel
theorem dJx4a65c_add_72be8_17 : decode cJx4a65c_add_72be8 17 = .ok (.iconst 1, 1) := by decide +kernel
theorem dJx4a65c_add_72be8_18 : decode cJx4a65c_add_72be8 18 = .ok (.iadd, 1) := by decide +kernel
theorem dJx4a65c_add_72be8_19 : decode cJx4a65c_add_72be8 19 = .ok (.putfield 48, 3) := by decide +kernel
theorem dJx4a65c_add_72be8_22 : decode cJx4a65c_add_72be8 22 = .ok (.return_, 1) := by decide +kernel
theorem dJx4a65c_add_9ea2d_0 : decode cJx4a65c_add_9ea2d 0 = .ok (.aload_n 0, 1) := by decide +kernel
theorem dJx4a65c_add_9ea2d_1 : decode cJx4a65c_add_9ea2d 1 = .ok (.dup, 1) := by decide +kernel
theorem dJx4a65c_add_9ea2d_2 : decode cJx4a65c_add_9ea2d 2 = .ok (.getfield 63, 3) := by decide +kernel
theorem dJx4a65c_add_9ea2d_5 : decode cJx4a65c_add_9ea2d 5 = .ok (.iconst 1, 1) := by decide +kernel
theorem dJx4a65c_add_9ea2d_6 : decode cJx4a65c_add_9ea2d 6 = .ok (.iadd, 1) := by decide +kernel
theorem dJx4a65c_add_9ea2d_7 : decode cJx4a65c_add_9ea2d 7 = .ok (.putfield 63, 3) := by decide +kernel
theorem dJx4a65c_add_9ea2d_10 : decode cJx4a65c_add_9ea2d 10 = .ok (.aload_n 0, 1) := by decide +kernel
theorem dJx4a65c_add_9ea2d_11 : decode cJx4a65c_add_9ea2d 11 = .ok (.aload_n 1, 1) := by decide +kernel
theorem dJx4a65c_add_9ea2d_12 : decode cJx4a65c_add_9ea2d 12 = .ok (.aload_n 0, 1) := by decide +kernel
theorem dJx4a65c_add_9ea2d_13 : decode cJx4a65c_add_9ea2d 13 = .ok (.getfield 9, 3) := by decide +kernel
theorem dJx4a65c_add_9ea2d_16 : decode cJx4a65c_add_9ea2d 16 = .ok (.aload_n 0, 1) := by decide +kernel
theorem dJx4a65c_add_9ea2d_17 : decode cJx4a65c_add_9ea2d 17 = .ok (.getfield 48, 3) := by decide +kernel
theorem dJx4a65c_add_9ea2d_20 : decode cJx4a65c_add_9ea2d 20 = .ok (.invokevirtual 131, 3) := by decide +kernel
theorem dJx4a65c_add_9ea2d_23 : decode cJx4a65c_add_9ea2d 23 = .ok (.iconst 1, 1) := by decide +kernel
theorem dJx4a65c_add_9ea2d_24 : decode cJx4a65c_add_9ea2d 24 = .ok (.ireturn, 1) := by decide +kernel
theorem dJx4a65c_remove_915e3_0 : decode cJx4a65c_remove_915e3 0 = .ok (.iload_n 1, 1) := by decide +kernel
theorem dJx4a65c_remove_915e3_1 : decode cJx4a65c_remove_915e3 1 = .ok (.aload_n 0, 1) := by decide +kernel
theorem dJx4a65c_remove_915e3_2 : decode cJx4a65c_remove_915e3 2 = .ok (.getfield 48, 3) := by decide +kernel
theorem dJx4a65c_remove_915e3_5 : decode cJx4a65c_remove_915e3 5 = .ok (.invokestatic 118, 3) := by decide +kernel
theorem dJx4a65c_remove_915e3_8 : decode cJx4a65c_remove_915e3 8 = .ok (.pop, 1) := by decide +kernel
theorem dJx4a65c_remove_915e3_9 : decode cJx4a65c_remove_915e3 9 = .ok (.aload_n 0, 1) := by decide +kernel
theorem dJx4a65c_remove_915e3_10 : decode cJx4a65c_remove_915e3 10 = .ok (.getfield 9, 3) := by decide +kernel
theorem dJx4a65c_remove_915e3_13 : decode cJx4a65c_remove_915e3 13 = .ok (.astore_n 2, 1) := by decide +kernel
theorem dJx4a65c_remove_915e3_14 : decode cJx4a65c_remove_915e3 14 = .ok (.aload_n 2, 1) := by decide +kernel
theorem dJx4a65c_remove_915e3_15 : decode cJx4a65c_remove_915e3 15 = .ok (.iload_n 1, 1) := by decide +kernel
theorem dJx4a65c_remove_915e3_16 : decode cJx4a65c_remove_915e3 16 = .ok (.aaload, 1) := by decide +kernel
theorem dJx4a65c_remove_915e3_17 : decode cJx4a65c_remove_915e3 17 = .ok (.astore_n 3, 1) := by decide +kernel
theorem dJx4a65c_remove_915e3_18 : decode cJx4a65c_remove_915e3 18 = .ok (.aload_n 0, 1) := by decide +kernel
theorem dJx4a65c_remove_915e3_19 : decode cJx4a65c_remove_915e3 19 = .ok (.aload_n 2, 1) := by decide +kernel
theorem dJx4a65c_remove_915e3_20 : decode cJx4a65c_remove_915e3 20 = .ok (.iload_n 1, 1) := by decide +kernel
theorem dJx4a65c_remove_915e3_21 : decode cJx4a65c_remove_915e3 21 = .ok (.invokevirtual 144, 3) := by decide +kernel
theorem dJx4a65c_remove_915e3_24 : decode cJx4a65c_remove_915e3 24 = .ok (.aload_n 3, 1) := by decide +kernel
theorem dJx4a65c_remove_915e3_25 : decode cJx4a65c_remove_915e3 25 = .ok (.areturn, 1) := by decide +kernel
theorem dJx4a65c_fastRemove_b59b0_0 : decode cJx4a65c_fastRemove_b59b0 0 = .ok (.aload_n 0, 1) := by decide +kernel
theorem dJx4a65c_fastRemove_b59b0_1 : decode cJx4a65c_fastRemove_b59b0 1 = .ok (.dup, 1) := by decide +kernel
theorem dJx4a65c_fastRemove_b59b0_2 : decode cJx4a65c_fastRemove_b59b0 2 = .ok (.getfield 63, 3) := by decide +kernel
theorem dJx4a65c_fastRemove_b59b0_5 : decode cJx4a65c_fastRemove_b59b0 5 = .ok (.iconst 1, 1) := by decide +kernel
theorem dJx4a65c_fastRemove_b59b0_6 : decode cJx4a65c_fastRemove_b59b0 6 = .ok (.iadd, 1) := by decide +kernel
theorem dJx4a65c_fastRemove_b59b0_7 : decode cJx4a65c_fastRemove_b59b0 7 = .ok (.putfield 63, 3) := by decide +kernel
theorem dJx4a65c_fastRemove_b59b0_10 : decode cJx4a65c_fastRemove_b59b0 10 = .ok (.aload_n 0, 1) := by decide +kernel
theorem dJx4a65c_fastRemove_b59b0_11 : decode cJx4a65c_fastRemove_b59b0 11 = .ok (.getfield 48, 3) := by decide +kernel
theorem dJx4a65c_fastRemove_b59b0_14 : decode cJx4a65c_fastRemove_b59b0 14 = .ok (.iconst 1, 1) := by decide +kernel
theorem dJx4a65c_fastRemove_b59b0_15 : decode cJx4a65c_fastRemove_b59b0 15 = .ok (.isub, 1) := by decide +kernel
theorem dJx4a65c_fastRemove_b59b0_16 : decode cJx4a65c_fastRemove_b59b0 16 = .ok (.dup, 1) := by decide +kernel
theorem dJx4a65c_fastRemove_b59b0_17 : decode cJx4a65c_fastRemove_b59b0 17 = .ok (.istore_n 3, 1) := by decide +kernel
theorem dJx4a65c_fastRemove_b59b0_18 : decode cJx4a65c_fastRemove_b59b0 18 = .ok (.iload_n 2, 1) := by decide +kernel
theorem dJx4a65c_fastRemove_b59b0_19 : decode cJx4a65c_fastRemove_b59b0 19 = .ok (.if_icmp .le 15, 3) := by decide +kernel
theorem dJx4a65c_fastRemove_b59b0_22 : decode cJx4a65c_fastRemove_b59b0 22 = .ok (.aload_n 1, 1) := by decide +kernel
theorem dJx4a65c_fastRemove_b59b0_23 : decode cJx4a65c_fastRemove_b59b0 23 = .ok (.iload_n 2, 1) := by decide +kernel
theorem dJx4a65c_fastRemove_b59b0_24 : decode cJx4a65c_fastRemove_b59b0 24 = .ok (.iconst 1, 1) := by decide +kernel
theorem dJx4a65c_fastRemove_b59b0_25 : decode cJx4a65c_fastRemove_b59b0 25 = .ok (.iadd, 1) := by decide +kernel
theorem dJx4a65c_fastRemove_b59b0_26 : decode cJx4a65c_fastRemove_b59b0 26 = .ok (.aload_n 1, 1) := by decide +kernel
theorem dJx4a65c_fastRemove_b59b0_27 : decode cJx4a65c_fastRemove_b59b0 27 = .ok (.iload_n 2, 1) := by decide +kernel
theorem dJx4a65c_fastRemove_b59b0_28 : decode cJx4a65c_fastRemove_b59b0 28 = .ok (.iload_n 3, 1) := by decide +kernel
theorem dJx4a65c_fastRemove_b59b0_29 : decode cJx4a65c_fastRemove_b59b0 29 = .ok (.iload_n 2, 1) := by decide +kernel
theorem dJx4a65c_fastRemove_b59b0_30 : decode cJx4a65c_fastRemove_b59b0 30 = .ok (.isub, 1) := by decide +kernel
theorem dJx4a65c_fastRemove_b59b0_31 : decode cJx4a65c_fastRemove_b59b0 31 = .ok (.invokestatic 112, 3) := by decide +kernel
theorem dJx4a65c_fastRemove_b59b0_34 : decode cJx4a65c_fastRemove_b59b0 34 = .ok (.aload_n 1, 1) := by decide +kernel
theorem dJx4a65c_fastRemove_b59b0_35 : decode cJx4a65c_fastRemove_b59b0 35 = .ok (.aload_n 0, 1) := by decide +kernel
theorem dJx4a65c_fastRemove_b59b0_36 : decode cJx4a65c_fastRemove_b59b0 36 = .ok (.iload_n 3, 1) := by decide +kernel
theorem dJx4a65c_fastRemove_b59b0_37 : decode cJx4a65c_fastRemove_b59b0 37 = .ok (.dup_x1, 1) := by decide +kernel
theorem dJx4a65c_fastRemove_b59b0_38 : decode cJx4a65c_fastRemove_b59b0 38 = .ok (.putfield 48, 3) := by decide +kernel
theorem dJx4a65c_fastRemove_b59b0_41 : decode cJx4a65c_fastRemove_b59b0 41 = .ok (.aconst_null, 1) := by decide +kernel
theorem dJx4a65c_fastRemove_b59b0_42 : decode cJx4a65c_fastRemove_b59b0 42 = .ok (.aastore, 1) := by decide +kernel
theorem dJx4a65c_fastRemove_b59b0_43 : decode cJx4a65c_fastRemove_b59b0 43 = .ok (.return_, 1) := by decide +kernel
theorem dJ7_fill_53178_0 : decode cJ7_fill_53178 0 = .ok (.iconst 0, 1) := by decide +kernel
theorem dJ7_fill_53178_1 : decode cJ7_fill_53178 1 = .ok (.istore_n 2, 1) := by decide +kernel
theorem dJ7_fill_53178_2 : decode cJ7_fill_53178 2 = .ok (.aload_n 0, 1) := by decide +kernel
theorem dJ7_fill_53178_3 : decode cJ7_fill_53178 3 = .ok (.arraylength, 1) := by decide +kernel
theorem dJ7_fill_53178_4 : decode cJ7_fill_53178 4 = .ok (.istore_n 3, 1) := by decide +kernel
theorem dJ7_fill_53178_5 : decode cJ7_fill_53178 5 = .ok (.iload_n 2, 1) := by decide +kernel
theorem dJ7_fill_53178_6 : decode cJ7_fill_53178 6 = .ok (.iload_n 3, 1) := by decide +kernel
theorem dJ7_fill_53178_7 : decode cJ7_fill_53178 7 = .ok (.if_icmp .ge 13, 3) := by decide +kernel
theorem dJ7_fill_53178_10 : decode cJ7_fill_53178 10 = .ok (.aload_n 0, 1) := by decide +kernel
theorem dJ7_fill_53178_11 : decode cJ7_fill_53178 11 = .ok (.iload_n 2, 1) := by decide +kernel
theorem dJ7_fill_53178_12 : decode cJ7_fill_53178 12 = .ok (.iload_n 1, 1) := by decide +kernel
theorem dJ7_fill_53178_13 : decode cJ7_fill_53178 13 = .ok (.iastore, 1) := by decide +kernel
theorem dJ7_fill_53178_14 : decode cJ7_fill_53178 14 = .ok (.iinc 2 1, 3) := by decide +kernel
theorem dJ7_fill_53178_17 : decode cJ7_fill_53178 17 = .ok (.goto (-12), 3) := by decide +kernel
theorem dJ7_fill_53178_20 : decode cJ7_fill_53178 20 = .ok (.return_, 1) := by decide +kernel
theorem dJ7_copyOf_1904c_0 : decode cJ7_copyOf_1904c 0 = .ok (.aload_n 0, 1) := by decide +kernel
theorem dJ7_copyOf_1904c_1 : decode cJ7_copyOf_1904c 1 = .ok (.iload_n 1, 1) := by decide +kernel
theorem dJ7_copyOf_1904c_2 : decode cJ7_copyOf_1904c 2 = .ok (.aload_n 0, 1) := by decide +kernel
theorem dJ7_copyOf_1904c_3 : decode cJ7_copyOf_1904c 3 = .ok (.invokevirtual 86, 3) := by decide +kernel
theorem dJ7_copyOf_1904c_6 : decode cJ7_copyOf_1904c 6 = .ok (.invokestatic 300, 3) := by decide +kernel
theorem dJ7_copyOf_1904c_9 : decode cJ7_copyOf_1904c 9 = .ok (.areturn, 1) := by decide +kernel
theorem dJ7_copyOf_6403c_0 : decode cJ7_copyOf_6403c 0 = .ok (.aload_n 2, 1) := by decide +kernel
theorem dJ7_copyOf_6403c_1 : decode cJ7_copyOf_6403c 1 = .ok (.ldc 110, 2) := by decide +kernel
theorem dJ7_copyOf_6403c_3 : decode cJ7_copyOf_6403c 3 = .ok (.if_acmp .ne 10, 3) := by decide +kernel
theorem dJ7_copyOf_6403c_6 : decode cJ7_copyOf_6403c 6 = .ok (.iload_n 1, 1) := by decide +kernel
theorem dJ7_copyOf_6403c_7 : decode cJ7_copyOf_6403c 7 = .ok (.anewarray 2, 3) := by decide +kernel
theorem dJ7_copyOf_6403c_10 : decode cJ7_copyOf_6403c 10 = .ok (.goto 14, 3) := by decide +kernel
theorem dJ7_copyOf_6403c_13 : decode cJ7_copyOf_6403c 13 = .ok (.aload_n 2, 1) := by decide +kernel
theorem dJ7_copyOf_6403c_14 : decode cJ7_copyOf_6403c 14 = .ok (.invokevirtual 90, 3) := by decide +kernel
theorem dJ7_copyOf_6403c_17 : decode cJ7_copyOf_6403c 17 = .ok (.iload_n 1, 1) := by decide +kernel
theorem dJ7_copyOf_6403c_18 : decode cJ7_copyOf_6403c 18 = .ok (.invokestatic 95, 3) := by decide +kernel
theorem dJ7_copyOf_6403c_21 : decode cJ7_copyOf_6403c 21 = .ok (.checkcast 110, 3) := by decide +kernel
theorem dJ7_copyOf_6403c_24 : decode cJ7_copyOf_6403c 24 = .ok (.astore_n 3, 1) := by decide +kernel
theorem dJ7_copyOf_6403c_25 : decode cJ7_copyOf_6403c 25 = .ok (.aload_n 0, 1) := by decide +kernel
theorem dJ7_copyOf_6403c_26 : decode cJ7_copyOf_6403c 26 = .ok (.iconst 0, 1) := by decide +kernel
theorem dJ7_copyOf_6403c_27 : decode cJ7_copyOf_6403c 27 = .ok (.aload_n 3, 1) := by decide +kernel
theorem dJ7_copyOf_6403c_28 : decode cJ7_copyOf_6403c 28 = .ok (.iconst 0, 1) := by decide +kernel
theorem dJ7_copyOf_6403c_29 : decode cJ7_copyOf_6403c 29 = .ok (.aload_n 0, 1) := by decide +kernel
theorem dJ7_copyOf_6403c_30 : decode cJ7_copyOf_6403c 30 = .ok (.arraylength, 1) := by decide +kernel
theorem dJ7_copyOf_6403c_31 : decode cJ7_copyOf_6403c 31 = .ok (.iload_n 1, 1) := by decide +kernel
theorem dJ7_copyOf_6403c_32 : decode cJ7_copyOf_6403c 32 = .ok (.invokestatic 304, 3) := by decide +kernel
theorem dJ7_copyOf_6403c_35 : decode cJ7_copyOf_6403c 35 = .ok (.invokestatic 150, 3) := by decide +kernel
theorem dJ7_copyOf_6403c_38 : decode cJ7_copyOf_6403c 38 = .ok (.aload_n 3, 1) := by decide +kernel
theorem dJ7_copyOf_6403c_39 : decode cJ7_copyOf_6403c 39 = .ok (.areturn, 1) := by decide +kernel
theorem dJ15_checkIndex_7cf53_0 : decode cJ15_checkIndex_7cf53 0 = .ok (.iload_n 0, 1) := by decide +kernel
theorem dJ15_checkIndex_7cf53_1 : decode cJ15_checkIndex_7cf53 1 = .ok (.iload_n 1, 1) := by decide +kernel
theorem dJ15_checkIndex_7cf53_2 : decode cJ15_checkIndex_7cf53 2 = .ok (.aconst_null, 1) := by decide +kernel
theorem dJ15_checkIndex_7cf53_3 : decode cJ15_checkIndex_7cf53 3 = .ok (.invokestatic 105, 3) := by decide +kernel
theorem dJ15_checkIndex_7cf53_6 : decode cJ15_checkIndex_7cf53 6 = .ok (.ireturn, 1) := by decide +kernel
theorem dJ8_newLength_cabcc_0 : decode cJ8_newLength_cabcc 0 = .ok (.iload_n 0, 1) := by decide +kernel
theorem dJ8_newLength_cabcc_1 : decode cJ8_newLength_cabcc 1 = .ok (.iload_n 1, 1) := by decide +kernel
theorem dJ8_newLength_cabcc_2 : decode cJ8_newLength_cabcc 2 = .ok (.iload_n 2, 1) := by decide +kernel
theorem dJ8_newLength_cabcc_3 : decode cJ8_newLength_cabcc 3 = .ok (.invokestatic 194, 3) := by decide +kernel
theorem dJ8_newLength_cabcc_6 : decode cJ8_newLength_cabcc 6 = .ok (.iadd, 1) := by decide +kernel
theorem dJ8_newLength_cabcc_7 : decode cJ8_newLength_cabcc 7 = .ok (.istore_n 3, 1) := by decide +kernel
theorem dJ8_newLength_cabcc_8 : decode cJ8_newLength_cabcc 8 = .ok (.iconst 0, 1) := by decide +kernel
theorem dJ8_newLength_cabcc_9 : decode cJ8_newLength_cabcc 9 = .ok (.iload_n 3, 1) := by decide +kernel
theorem dJ8_newLength_cabcc_10 : decode cJ8_newLength_cabcc 10 = .ok (.if_icmp .ge 11, 3) := by decide +kernel
theorem dJ8_newLength_cabcc_13 : decode cJ8_newLength_cabcc 13 = .ok (.iload_n 3, 1) := by decide +kernel
theorem dJ8_newLength_cabcc_14 : decode cJ8_newLength_cabcc 14 = .ok (.ldc 200, 2) := by decide +kernel
theorem dJ8_newLength_cabcc_16 : decode cJ8_newLength_cabcc 16 = .ok (.if_icmp .gt 5, 3) := by decide +kernel
theorem dJ8_newLength_cabcc_19 : decode cJ8_newLength_cabcc 19 = .ok (.iload_n 3, 1) := by decide +kernel
theorem dJ8_newLength_cabcc_20 : decode cJ8_newLength_cabcc 20 = .ok (.ireturn, 1) := by decide +kernel
theorem dJ8_newLength_cabcc_21 : decode cJ8_newLength_cabcc 21 = .ok (.iload_n 0, 1) := by decide +kernel
theorem dJ8_newLength_cabcc_22 : decode cJ8_newLength_cabcc 22 = .ok (.iload_n 1, 1) := by decide +kernel
theorem dJ8_newLength_cabcc_23 : decode cJ8_newLength_cabcc 23 = .ok (.invokestatic 201, 3) := by decide +kernel
theorem dJ8_newLength_cabcc_26 : decode cJ8_newLength_cabcc 26 = .ok (.ireturn, 1) := by decide +kernel
theorem dJ8_hugeLength_7cf53_0 : decode cJ8_hugeLength_7cf53 0 = .ok (.iload_n 0, 1) := by decide +kernel
theorem dJ8_hugeLength_7cf53_1 : decode cJ8_hugeLength_7cf53 1 = .ok (.iload_n 1, 1) := by decide +kernel
theorem dJ8_hugeLength_7cf53_2 : decode cJ8_hugeLength_7cf53 2 = .ok (.iadd, 1) := by decide +kernel
theorem dJ8_hugeLength_7cf53_3 : decode cJ8_hugeLength_7cf53 3 = .ok (.istore_n 2, 1) := by decide +kernel
theorem dJ8_hugeLength_7cf53_4 : decode cJ8_hugeLength_7cf53 4 = .ok (.iload_n 2, 1) := by decide +kernel
theorem dJ8_hugeLength_7cf53_5 : decode cJ8_hugeLength_7cf53 5 = .ok (.ifCond .ge 44, 3) := by decide +kernel
theorem dJ8_hugeLength_7cf53_8 : decode cJ8_hugeLength_7cf53 8 = .ok (.new 204, 3) := by decide +kernel
theorem dJ8_hugeLength_7cf53_11 : decode cJ8_hugeLength_7cf53 11 = .ok (.dup, 1) := by decide +kernel
theorem dJ8_hugeLength_7cf53_12 : decode cJ8_hugeLength_7cf53 12 = .ok (.new 89, 3) := by decide +kernel
theorem dJ8_hugeLength_7cf53_15 : decode cJ8_hugeLength_7cf53 15 = .ok (.dup, 1) := by decide +kernel
theorem dJ8_hugeLength_7cf53_16 : decode cJ8_hugeLength_7cf53 16 = .ok (.invokespecial 91, 3) := by decide +kernel
theorem dJ8_hugeLength_7cf53_19 : decode cJ8_hugeLength_7cf53 19 = .ok (.ldc 206, 2) := by decide +kernel
theorem dJ8_hugeLength_7cf53_21 : decode cJ8_hugeLength_7cf53 21 = .ok (.invokevirtual 94, 3) := by decide +kernel
theorem dJ8_hugeLength_7cf53_24 : decode cJ8_hugeLength_7cf53 24 = .ok (.iload_n 0, 1) := by decide +kernel
theorem dJ8_hugeLength_7cf53_25 : decode cJ8_hugeLength_7cf53 25 = .ok (.invokevirtual 98, 3) := by decide +kernel
theorem dJ8_hugeLength_7cf53_28 : decode cJ8_hugeLength_7cf53 28 = .ok (.ldc 208, 2) := by decide +kernel
theorem dJ8_hugeLength_7cf53_30 : decode cJ8_hugeLength_7cf53 30 = .ok (.invokevirtual 94, 3) := by decide +kernel
theorem dJ8_hugeLength_7cf53_33 : decode cJ8_hugeLength_7cf53 33 = .ok (.iload_n 1, 1) := by decide +kernel
theorem dJ8_hugeLength_7cf53_34 : decode cJ8_hugeLength_7cf53 34 = .ok (.invokevirtual 98, 3) := by decide +kernel
theorem dJ8_hugeLength_7cf53_37 : decode cJ8_hugeLength_7cf53 37 = .ok (.ldc 210, 2) := by decide +kernel
theorem dJ8_hugeLength_7cf53_39 : decode cJ8_hugeLength_7cf53 39 = .ok (.invokevirtual 94, 3) := by decide +kernel
theorem dJ8_hugeLength_7cf53_42 : decode cJ8_hugeLength_7cf53 42 = .ok (.invokevirtual 101, 3) := by decide +kernel
theorem dJ8_hugeLength_7cf53_45 : decode cJ8_hugeLength_7cf53 45 = .ok (.invokespecial 212, 3) := by decide +kernel
theorem dJ8_hugeLength_7cf53_48 : decode cJ8_hugeLength_7cf53 48 = .ok (.athrow, 1) := by decide +kernel
theorem dJ8_hugeLength_7cf53_49 : decode cJ8_hugeLength_7cf53 49 = .ok (.iload_n 2, 1) := by decide +kernel
theorem dJ8_hugeLength_7cf53_50 : decode cJ8_hugeLength_7cf53 50 = .ok (.ldc 200, 2) := by decide +kernel
theorem dJ8_hugeLength_7cf53_52 : decode cJ8_hugeLength_7cf53 52 = .ok (.if_icmp .gt 6, 3) := by decide +kernel
theorem dJ8_hugeLength_7cf53_55 : decode cJ8_hugeLength_7cf53 55 = .ok (.ldc 200, 2) := by decide +kernel
theorem dJ8_hugeLength_7cf53_57 : decode cJ8_hugeLength_7cf53 57 = .ok (.ireturn, 1) := by decide +kernel
theorem dJ8_hugeLength_7cf53_58 : decode cJ8_hugeLength_7cf53 58 = .ok (.iload_n 2, 1) := by decide +kernel
theorem dJ8_hugeLength_7cf53_59 : decode cJ8_hugeLength_7cf53 59 = .ok (.ireturn, 1) := by decide +kernel
theorem dJ3_checkIndex_8e157_0 : decode cJ3_checkIndex_8e157 0 = .ok (.iload_n 0, 1) := by decide +kernel
theorem dJ3_checkIndex_8e157_1 : decode cJ3_checkIndex_8e157 1 = .ok (.ifCond .lt 8, 3) := by decide +kernel
theorem dJ3_checkIndex_8e157_4 : decode cJ3_checkIndex_8e157 4 = .ok (.iload_n 0, 1) := by decide +kernel
theorem dJ3_checkIndex_8e157_5 : decode cJ3_checkIndex_8e157 5 = .ok (.iload_n 1, 1) := by decide +kernel
theorem dJ3_checkIndex_8e157_6 : decode cJ3_checkIndex_8e157 6 = .ok (.if_icmp .lt 10, 3) := by decide +kernel
theorem dJ3_checkIndex_8e157_9 : decode cJ3_checkIndex_8e157 9 = .ok (.aload_n 2, 1) := by decide +kernel
theorem dJ3_checkIndex_8e157_10 : decode cJ3_checkIndex_8e157 10 = .ok (.iload_n 0, 1) := by decide +kernel
theorem dJ3_checkIndex_8e157_11 : decode cJ3_checkIndex_8e157 11 = .ok (.iload_n 1, 1) := by decide +kernel
theorem dJ3_checkIndex_8e157_12 : decode cJ3_checkIndex_8e157 12 = .ok (.invokestatic 95, 3) := by decide +kernel
theorem dJ3_checkIndex_8e157_15 : decode cJ3_checkIndex_8e157 15 = .ok (.athrow, 1) := by decide +kernel
theorem dJ3_checkIndex_8e157_16 : decode cJ3_checkIndex_8e157 16 = .ok (.iload_n 0, 1) := by decide +kernel
theorem dJ3_checkIndex_8e157_17 : decode cJ3_checkIndex_8e157 17 = .ok (.ireturn, 1) := by decide +kernel
