theorem dX3_init_0 : decode cX3_init 0 = .ok (.aload_n 0, 1) := by decide +kernel
theorem dX3_init_1 : decode cX3_init 1 = .ok (.invokespecial 1, 3) := by decide +kernel
theorem dX3_init_4 : decode cX3_init 4 = .ok (.aload_n 0, 1) := by decide +kernel
theorem dX3_init_5 : decode cX3_init 5 = .ok (.bipush 48, 2) := by decide +kernel
theorem dX3_init_7 : decode cX3_init 7 = .ok (.newarray .int, 2) := by decide +kernel
theorem dX3_init_9 : decode cX3_init 9 = .ok (.putfield 7, 3) := by decide +kernel
theorem dX3_init_12 : decode cX3_init 12 = .ok (.aload_n 0, 1) := by decide +kernel
theorem dX3_init_13 : decode cX3_init 13 = .ok (.sipush 192, 3) := by decide +kernel
theorem dX3_init_16 : decode cX3_init 16 = .ok (.newarray .int, 2) := by decide +kernel
theorem dX3_init_18 : decode cX3_init 18 = .ok (.putfield 13, 3) := by decide +kernel
theorem dX3_init_21 : decode cX3_init 21 = .ok (.aload_n 0, 1) := by decide +kernel
theorem dX3_init_22 : decode cX3_init 22 = .ok (.sipush 192, 3) := by decide +kernel
theorem dX3_init_25 : decode cX3_init 25 = .ok (.newarray .int, 2) := by decide +kernel
theorem dX3_init_27 : decode cX3_init 27 = .ok (.putfield 16, 3) := by decide +kernel
theorem dX3_init_30 : decode cX3_init 30 = .ok (.aload_n 0, 1) := by decide +kernel
theorem dX3_init_31 : decode cX3_init 31 = .ok (.sipush 192, 3) := by decide +kernel
theorem dX3_init_34 : decode cX3_init 34 = .ok (.newarray .int, 2) := by decide +kernel
theorem dX3_init_36 : decode cX3_init 36 = .ok (.putfield 19, 3) := by decide +kernel
theorem dX3_init_39 : decode cX3_init 39 = .ok (.aload_n 0, 1) := by decide +kernel
theorem dX3_init_40 : decode cX3_init 40 = .ok (.bipush 48, 2) := by decide +kernel
theorem dX3_init_42 : decode cX3_init 42 = .ok (.newarray .boolean, 2) := by decide +kernel
theorem dX3_init_44 : decode cX3_init 44 = .ok (.putfield 22, 3) := by decide +kernel
theorem dX3_init_47 : decode cX3_init 47 = .ok (.aload_n 0, 1) := by decide +kernel
theorem dX3_init_48 : decode cX3_init 48 = .ok (.bipush 48, 2) := by decide +kernel
theorem dX3_init_50 : decode cX3_init 50 = .ok (.newarray .int, 2) := by decide +kernel
theorem dX3_init_52 : decode cX3_init 52 = .ok (.putfield 26, 3) := by decide +kernel
theorem dX3_init_55 : decode cX3_init 55 = .ok (.aload_n 0, 1) := by decide +kernel
theorem dX3_init_56 : decode cX3_init 56 = .ok (.bipush 48, 2) := by decide +kernel
theorem dX3_init_58 : decode cX3_init 58 = .ok (.newarray .int, 2) := by decide +kernel
theorem dX3_init_60 : decode cX3_init 60 = .ok (.putfield 29, 3) := by decide +kernel
theorem dX3_init_63 : decode cX3_init 63 = .ok (.aload_n 0, 1) := by decide +kernel
theorem dX3_init_64 : decode cX3_init 64 = .ok (.iconst 4, 1) := by decide +kernel
theorem dX3_init_65 : decode cX3_init 65 = .ok (.newarray .boolean, 2) := by decide +kernel
theorem dX3_init_67 : decode cX3_init 67 = .ok (.putfield 32, 3) := by decide +kernel
theorem dX3_init_70 : decode cX3_init 70 = .ok (.aload_n 0, 1) := by decide +kernel
theorem dX3_init_71 : decode cX3_init 71 = .ok (.iconst 4, 1) := by decide +kernel
theorem dX3_init_72 : decode cX3_init 72 = .ok (.newarray .boolean, 2) := by decide +kernel
theorem dX3_init_74 : decode cX3_init 74 = .ok (.putfield 35, 3) := by decide +kernel
theorem dX3_init_77 : decode cX3_init 77 = .ok (.aload_n 0, 1) := by decide +kernel
theorem dX3_init_78 : decode cX3_init 78 = .ok (.bipush 16, 2) := by decide +kernel
theorem dX3_init_80 : decode cX3_init 80 = .ok (.newarray .int, 2) := by decide +kernel
theorem dX3_init_82 : decode cX3_init 82 = .ok (.putfield 38, 3) := by decide +kernel
theorem dX3_init_85 : decode cX3_init 85 = .ok (.aload_n 0, 1) := by decide +kernel
theorem dX3_init_86 : decode cX3_init 86 = .ok (.iconst 4, 1) := by decide +kernel
theorem dX3_init_87 : decode cX3_init 87 = .ok (.newarray .int, 2) := by decide +kernel
theorem dX3_init_89 : decode cX3_init 89 = .ok (.putfield 41, 3) := by decide +kernel
theorem dX3_init_92 : decode cX3_init 92 = .ok (.aload_n 0, 1) := by decide +kernel
theorem dX3_init_93 : decode cX3_init 93 = .ok (.sipush 192, 3) := by decide +kernel
theorem dX3_init_96 : decode cX3_init 96 = .ok (.newarray .int, 2) := by decide +kernel
theorem dX3_init_98 : decode cX3_init 98 = .ok (.putfield 44, 3) := by decide +kernel
theorem dX3_init_101 : decode cX3_init 101 = .ok (.aload_n 0, 1) := by decide +kernel
theorem dX3_init_102 : decode cX3_init 102 = .ok (.iconst 4, 1) := by decide +kernel
theorem dX3_init_103 : decode cX3_init 103 = .ok (.newarray .int, 2) := by decide +kernel
theorem dX3_init_105 : decode cX3_init 105 = .ok (.putfield 47, 3) := by decide +kernel
theorem dX3_init_108 : decode cX3_init 108 = .ok (.aload_n 0, 1) := by decide +kernel
theorem dX3_init_109 : decode cX3_init 109 = .ok (.sipush 192, 3) := by decide +kernel
theorem dX3_init_112 : decode cX3_init 112 = .ok (.newarray .int, 2) := by decide +kernel
theorem dX3_init_114 : decode cX3_init 114 = .ok (.putfield 50, 3) := by decide +kernel
theorem dX3_init_117 : decode cX3_init 117 = .ok (.aload_n 0, 1) := by decide +kernel
theorem dX3_init_118 : decode cX3_init 118 = .ok (.iconst 4, 1) := by decide +kernel
theorem dX3_init_119 : decode cX3_init 119 = .ok (.newarray .int, 2) := by decide +kernel
theorem dX3_init_121 : decode cX3_init 121 = .ok (.putfield 53, 3) := by decide +kernel
theorem dX3_init_124 : decode cX3_init 124 = .ok (.aload_n 0, 1) := by decide +kernel
theorem dX3_init_125 : decode cX3_init 125 = .ok (.iconst 4, 1) := by decide +kernel
theorem dX3_init_126 : decode cX3_init 126 = .ok (.newarray .int, 2) := by decide +kernel
theorem dX3_init_128 : decode cX3_init 128 = .ok (.putfield 56, 3) := by decide +kernel
theorem dX3_init_131 : decode cX3_init 131 = .ok (.aload_n 0, 1) := by decide +kernel
theorem dX3_init_132 : decode cX3_init 132 = .ok (.iconst 4, 1) := by decide +kernel
theorem dX3_init_133 : decode cX3_init 133 = .ok (.newarray .int, 2) := by decide +kernel
theorem dX3_init_135 : decode cX3_init 135 = .ok (.putfield 59, 3) := by decide +kernel
theorem dX3_init_138 : decode cX3_init 138 = .ok (.return_, 1) := by decide +kernel
theorem dX3_thrown_0 : decode cX3_thrown 0 = .ok (.aload_n 0, 1) := by decide +kernel
theorem dX3_thrown_1 : decode cX3_thrown 1 = .ok (.getfield 62, 3) := by decide +kernel
theorem dX3_thrown_4 : decode cX3_thrown 4 = .ok (.ireturn, 1) := by decide +kernel
theorem dX3_in_0 : decode cX3_in 0 = .ok (.iload_n 0, 1) := by decide +kernel
theorem dX3_in_1 : decode cX3_in 1 = .ok (.iload_n 1, 1) := by decide +kernel
theorem dX3_in_2 : decode cX3_in 2 = .ok (.if_icmp .lt 12, 3) := by decide +kernel
theorem dX3_in_5 : decode cX3_in 5 = .ok (.iload_n 0, 1) := by decide +kernel
theorem dX3_in_6 : decode cX3_in 6 = .ok (.iload_n 2, 1) := by decide +kernel
theorem dX3_in_7 : decode cX3_in 7 = .ok (.if_icmp .gt 7, 3) := by decide +kernel
theorem dX3_in_10 : decode cX3_in 10 = .ok (.iconst 1, 1) := by decide +kernel
theorem dX3_in_11 : decode cX3_in 11 = .ok (.goto 4, 3) := by decide +kernel
theorem dX3_in_14 : decode cX3_in 14 = .ok (.iconst 0, 1) := by decide +kernel
theorem dX3_in_15 : decode cX3_in 15 = .ok (.ireturn, 1) := by decide +kernel
theorem dX3_isMember_0 : decode cX3_isMember 0 = .ok (.iload_n 0, 1) := by decide +kernel
theorem dX3_isMember_1 : decode cX3_isMember 1 = .ok (.iconst 0, 1) := by decide +kernel
theorem dX3_isMember_2 : decode cX3_isMember 2 = .ok (.iconst 3, 1) := by decide +kernel
theorem dX3_isMember_3 : decode cX3_isMember 3 = .ok (.invokestatic 66, 3) := by decide +kernel
theorem dX3_isMember_6 : decode cX3_isMember 6 = .ok (.ireturn, 1) := by decide +kernel
theorem dX3_isMessage_0 : decode cX3_isMessage 0 = .ok (.iload_n 1, 1) := by decide +kernel
theorem dX3_isMessage_1 : decode cX3_isMessage 1 = .ok (.iconst 0, 1) := by decide +kernel
theorem dX3_isMessage_2 : decode cX3_isMessage 2 = .ok (.aload_n 0, 1) := by decide +kernel
theorem dX3_isMessage_3 : decode cX3_isMessage 3 = .ok (.getfield 70, 3) := by decide +kernel
theorem dX3_isMessage_6 : decode cX3_isMessage 6 = .ok (.iconst 1, 1) := by decide +kernel
theorem dX3_isMessage_7 : decode cX3_isMessage 7 = .ok (.isub, 1) := by decide +kernel
theorem dX3_isMessage_8 : decode cX3_isMessage 8 = .ok (.invokestatic 66, 3) := by decide +kernel
theorem dX3_isMessage_11 : decode cX3_isMessage 11 = .ok (.ireturn, 1) := by decide +kernel
theorem dX3_isCopy_0 : decode cX3_isCopy 0 = .ok (.aload_n 0, 1) := by decide +kernel
theorem dX3_isCopy_1 : decode cX3_isCopy 1 = .ok (.iload_n 1, 1) := by decide +kernel
theorem dX3_isCopy_2 : decode cX3_isCopy 2 = .ok (.invokevirtual 73, 3) := by decide +kernel
theorem dX3_isCopy_5 : decode cX3_isCopy 5 = .ok (.ifCond .eq 14, 3) := by decide +kernel
theorem dX3_isCopy_8 : decode cX3_isCopy 8 = .ok (.iload_n 2, 1) := by decide +kernel
theorem dX3_isCopy_9 : decode cX3_isCopy 9 = .ok (.invokestatic 77, 3) := by decide +kernel
theorem dX3_isCopy_12 : decode cX3_isCopy 12 = .ok (.ifCond .eq 7, 3) := by decide +kernel
theorem dX3_isCopy_15 : decode cX3_isCopy 15 = .ok (.iconst 1, 1) := by decide +kernel
theorem dX3_isCopy_16 : decode cX3_isCopy 16 = .ok (.goto 4, 3) := by decide +kernel
theorem dX3_isCopy_19 : decode cX3_isCopy 19 = .ok (.iconst 0, 1) := by decide +kernel
theorem dX3_isCopy_20 : decode cX3_isCopy 20 = .ok (.ireturn, 1) := by decide +kernel
theorem dX3_isBroken_0 : decode cX3_isBroken 0 = .ok (.iconst 0, 1) := by decide +kernel
theorem dX3_isBroken_1 : decode cX3_isBroken 1 = .ok (.istore_n 1, 1) := by decide +kernel
theorem dX3_isBroken_2 : decode cX3_isBroken 2 = .ok (.iconst 0, 1) := by decide +kernel
theorem dX3_isBroken_3 : decode cX3_isBroken 3 = .ok (.istore_n 2, 1) := by decide +kernel
theorem dX3_isBroken_4 : decode cX3_isBroken 4 = .ok (.iload_n 2, 1) := by decide +kernel
theorem dX3_isBroken_5 : decode cX3_isBroken 5 = .ok (.iconst 4, 1) := by decide +kernel
theorem dX3_isBroken_6 : decode cX3_isBroken 6 = .ok (.if_icmp .ge 37, 3) := by decide +kernel
theorem dX3_isBroken_9 : decode cX3_isBroken 9 = .ok (.iload_n 1, 1) := by decide +kernel
theorem dX3_isBroken_10 : decode cX3_isBroken 10 = .ok (.ifCond .ne 21, 3) := by decide +kernel
theorem dX3_isBroken_13 : decode cX3_isBroken 13 = .ok (.aload_n 0, 1) := by decide +kernel
theorem dX3_isBroken_14 : decode cX3_isBroken 14 = .ok (.getfield 32, 3) := by decide +kernel
theorem dX3_isBroken_17 : decode cX3_isBroken 17 = .ok (.iload_n 2, 1) := by decide +kernel
theorem dX3_isBroken_18 : decode cX3_isBroken 18 = .ok (.baload, 1) := by decide +kernel
theorem dX3_isBroken_19 : decode cX3_isBroken 19 = .ok (.ifCond .eq 16, 3) := by decide +kernel
theorem dX3_isBroken_22 : decode cX3_isBroken 22 = .ok (.aload_n 0, 1) := by decide +kernel
theorem dX3_isBroken_23 : decode cX3_isBroken 23 = .ok (.getfield 35, 3) := by decide +kernel
theorem dX3_isBroken_26 : decode cX3_isBroken 26 = .ok (.iload_n 2, 1) := by decide +kernel
theorem dX3_isBroken_27 : decode cX3_isBroken 27 = .ok (.baload, 1) := by decide +kernel
theorem dX3_isBroken_28 : decode cX3_isBroken 28 = .ok (.ifCond .ne 7, 3) := by decide +kernel
theorem dX3_isBroken_31 : decode cX3_isBroken 31 = .ok (.iconst 1, 1) := by decide +kernel
theorem dX3_isBroken_32 : decode cX3_isBroken 32 = .ok (.goto 4, 3) := by decide +kernel
theorem dX3_isBroken_35 : decode cX3_isBroken 35 = .ok (.iconst 0, 1) := by decide +kernel
theorem dX3_isBroken_36 : decode cX3_isBroken 36 = .ok (.istore_n 1, 1) := by decide +kernel
theorem dX3_isBroken_37 : decode cX3_isBroken 37 = .ok (.iinc 2 1, 3) := by decide +kernel
theorem dX3_isBroken_40 : decode cX3_isBroken 40 = .ok (.goto (-36), 3) := by decide +kernel
theorem dX3_isBroken_43 : decode cX3_isBroken 43 = .ok (.iload_n 1, 1) := by decide +kernel
theorem dX3_isBroken_44 : decode cX3_isBroken 44 = .ok (.ireturn, 1) := by decide +kernel
theorem dX3_wasDelivered_0 : decode cX3_wasDelivered 0 = .ok (.iconst 0, 1) := by decide +kernel
theorem dX3_wasDelivered_1 : decode cX3_wasDelivered 1 = .ok (.istore_n 3, 1) := by decide +kernel
theorem dX3_wasDelivered_2 : decode cX3_wasDelivered 2 = .ok (.iconst 0, 1) := by decide +kernel
theorem dX3_wasDelivered_3 : decode cX3_wasDelivered 3 = .ok (.istore 4, 2) := by decide +kernel
theorem dX3_wasDelivered_5 : decode cX3_wasDelivered 5 = .ok (.iload 4, 2) := by decide +kernel
theorem dX3_wasDelivered_7 : decode cX3_wasDelivered 7 = .ok (.aload_n 0, 1) := by decide +kernel
theorem dX3_wasDelivered_8 : decode cX3_wasDelivered 8 = .ok (.getfield 41, 3) := by decide +kernel
theorem dX3_wasDelivered_11 : decode cX3_wasDelivered 11 = .ok (.iload_n 2, 1) := by decide +kernel
theorem dX3_wasDelivered_12 : decode cX3_wasDelivered 12 = .ok (.iaload, 1) := by decide +kernel
theorem dX3_wasDelivered_13 : decode cX3_wasDelivered 13 = .ok (.if_icmp .ge 35, 3) := by decide +kernel
theorem dX3_wasDelivered_16 : decode cX3_wasDelivered 16 = .ok (.iload_n 3, 1) := by decide +kernel
theorem dX3_wasDelivered_17 : decode cX3_wasDelivered 17 = .ok (.ifCond .ne 19, 3) := by decide +kernel
theorem dX3_wasDelivered_20 : decode cX3_wasDelivered 20 = .ok (.aload_n 0, 1) := by decide +kernel
theorem dX3_wasDelivered_21 : decode cX3_wasDelivered 21 = .ok (.getfield 44, 3) := by decide +kernel
theorem dX3_wasDelivered_24 : decode cX3_wasDelivered 24 = .ok (.bipush 48, 2) := by decide +kernel
theorem dX3_wasDelivered_26 : decode cX3_wasDelivered 26 = .ok (.iload_n 2, 1) := by decide +kernel
theorem dX3_wasDelivered_27 : decode cX3_wasDelivered 27 = .ok (.imul, 1) := by decide +kernel
theorem dX3_wasDelivered_28 : decode cX3_wasDelivered 28 = .ok (.iload 4, 2) := by decide +kernel
theorem dX3_wasDelivered_30 : decode cX3_wasDelivered 30 = .ok (.iadd, 1) := by decide +kernel
theorem dX3_wasDelivered_31 : decode cX3_wasDelivered 31 = .ok (.iaload, 1) := by decide +kernel
theorem dX3_wasDelivered_32 : decode cX3_wasDelivered 32 = .ok (.iload_n 1, 1) := by decide +kernel
theorem dX3_wasDelivered_33 : decode cX3_wasDelivered 33 = .ok (.if_icmp .ne 7, 3) := by decide +kernel
theorem dX3_wasDelivered_36 : decode cX3_wasDelivered 36 = .ok (.iconst 1, 1) := by decide +kernel
theorem dX3_wasDelivered_37 : decode cX3_wasDelivered 37 = .ok (.goto 4, 3) := by decide +kernel
theorem dX3_wasDelivered_40 : decode cX3_wasDelivered 40 = .ok (.iconst 0, 1) := by decide +kernel
theorem dX3_wasDelivered_41 : decode cX3_wasDelivered 41 = .ok (.istore_n 3, 1) := by decide +kernel
theorem dX3_wasDelivered_42 : decode cX3_wasDelivered 42 = .ok (.iinc 4 1, 3) := by decide +kernel
theorem dX3_wasDelivered_45 : decode cX3_wasDelivered 45 = .ok (.goto (-40), 3) := by decide +kernel
theorem dX3_wasDelivered_48 : decode cX3_wasDelivered 48 = .ok (.iload_n 3, 1) := by decide +kernel
theorem dX3_wasDelivered_49 : decode cX3_wasDelivered 49 = .ok (.ireturn, 1) := by decide +kernel
theorem dX3_numbers_0 : decode cX3_numbers 0 = .ok (.aload_n 0, 1) := by decide +kernel
theorem dX3_numbers_1 : decode cX3_numbers 1 = .ok (.getfield 26, 3) := by decide +kernel
theorem dX3_numbers_4 : decode cX3_numbers 4 = .ok (.iload_n 1, 1) := by decide +kernel
theorem dX3_numbers_5 : decode cX3_numbers 5 = .ok (.aload_n 0, 1) := by decide +kernel
theorem dX3_numbers_6 : decode cX3_numbers 6 = .ok (.getfield 80, 3) := by decide +kernel
theorem dX3_numbers_9 : decode cX3_numbers 9 = .ok (.iastore, 1) := by decide +kernel
theorem dX3_numbers_10 : decode cX3_numbers 10 = .ok (.aload_n 0, 1) := by decide +kernel
theorem dX3_numbers_11 : decode cX3_numbers 11 = .ok (.dup, 1) := by decide +kernel
theorem dX3_numbers_12 : decode cX3_numbers 12 = .ok (.getfield 80, 3) := by decide +kernel
theorem dX3_numbers_15 : decode cX3_numbers 15 = .ok (.iconst 1, 1) := by decide +kernel
theorem dX3_numbers_16 : decode cX3_numbers 16 = .ok (.iadd, 1) := by decide +kernel
theorem dX3_numbers_17 : decode cX3_numbers 17 = .ok (.putfield 80, 3) := by decide +kernel
theorem dX3_numbers_20 : decode cX3_numbers 20 = .ok (.return_, 1) := by decide +kernel
theorem dX3_delivers_0 : decode cX3_delivers 0 = .ok (.aload_n 0, 1) := by decide +kernel
theorem dX3_delivers_1 : decode cX3_delivers 1 = .ok (.getfield 13, 3) := by decide +kernel
theorem dX3_delivers_4 : decode cX3_delivers 4 = .ok (.iconst 4, 1) := by decide +kernel
theorem dX3_delivers_5 : decode cX3_delivers 5 = .ok (.iload_n 1, 1) := by decide +kernel
theorem dX3_delivers_6 : decode cX3_delivers 6 = .ok (.imul, 1) := by decide +kernel
theorem dX3_delivers_7 : decode cX3_delivers 7 = .ok (.iload_n 2, 1) := by decide +kernel
theorem dX3_delivers_8 : decode cX3_delivers 8 = .ok (.iadd, 1) := by decide +kernel
theorem dX3_delivers_9 : decode cX3_delivers 9 = .ok (.iconst 2, 1) := by decide +kernel
theorem dX3_delivers_10 : decode cX3_delivers 10 = .ok (.iastore, 1) := by decide +kernel
theorem dX3_delivers_11 : decode cX3_delivers 11 = .ok (.aload_n 0, 1) := by decide +kernel
theorem dX3_delivers_12 : decode cX3_delivers 12 = .ok (.getfield 44, 3) := by decide +kernel
theorem dX3_delivers_15 : decode cX3_delivers 15 = .ok (.bipush 48, 2) := by decide +kernel
theorem dX3_delivers_17 : decode cX3_delivers 17 = .ok (.iload_n 2, 1) := by decide +kernel
theorem dX3_delivers_18 : decode cX3_delivers 18 = .ok (.imul, 1) := by decide +kernel
theorem dX3_delivers_19 : decode cX3_delivers 19 = .ok (.aload_n 0, 1) := by decide +kernel
theorem dX3_delivers_20 : decode cX3_delivers 20 = .ok (.getfield 41, 3) := by decide +kernel
theorem dX3_delivers_23 : decode cX3_delivers 23 = .ok (.iload_n 2, 1) := by decide +kernel
theorem dX3_delivers_24 : decode cX3_delivers 24 = .ok (.iaload, 1) := by decide +kernel
theorem dX3_delivers_25 : decode cX3_delivers 25 = .ok (.iadd, 1) := by decide +kernel
theorem dX3_delivers_26 : decode cX3_delivers 26 = .ok (.iload_n 1, 1) := by decide +kernel
theorem dX3_delivers_27 : decode cX3_delivers 27 = .ok (.iastore, 1) := by decide +kernel
theorem dX3_delivers_28 : decode cX3_delivers 28 = .ok (.aload_n 0, 1) := by decide +kernel
theorem dX3_delivers_29 : decode cX3_delivers 29 = .ok (.getfield 41, 3) := by decide +kernel
theorem dX3_delivers_32 : decode cX3_delivers 32 = .ok (.iload_n 2, 1) := by decide +kernel
theorem dX3_delivers_33 : decode cX3_delivers 33 = .ok (.dup2, 1) := by decide +kernel
theorem dX3_delivers_34 : decode cX3_delivers 34 = .ok (.iaload, 1) := by decide +kernel
theorem dX3_delivers_35 : decode cX3_delivers 35 = .ok (.iconst 1, 1) := by decide +kernel
theorem dX3_delivers_36 : decode cX3_delivers 36 = .ok (.iadd, 1) := by decide +kernel
theorem dX3_delivers_37 : decode cX3_delivers 37 = .ok (.iastore, 1) := by decide +kernel
theorem dX3_delivers_38 : decode cX3_delivers 38 = .ok (.aload_n 0, 1) := by decide +kernel
theorem dX3_delivers_39 : decode cX3_delivers 39 = .ok (.getfield 38, 3) := by decide +kernel
theorem dX3_delivers_42 : decode cX3_delivers 42 = .ok (.iconst 4, 1) := by decide +kernel
theorem dX3_delivers_43 : decode cX3_delivers 43 = .ok (.iload_n 2, 1) := by decide +kernel
theorem dX3_delivers_44 : decode cX3_delivers 44 = .ok (.imul, 1) := by decide +kernel
theorem dX3_delivers_45 : decode cX3_delivers 45 = .ok (.aload_n 0, 1) := by decide +kernel
theorem dX3_delivers_46 : decode cX3_delivers 46 = .ok (.getfield 7, 3) := by decide +kernel
theorem dX3_delivers_49 : decode cX3_delivers 49 = .ok (.iload_n 1, 1) := by decide +kernel
theorem dX3_delivers_50 : decode cX3_delivers 50 = .ok (.iaload, 1) := by decide +kernel
theorem dX3_delivers_51 : decode cX3_delivers 51 = .ok (.iadd, 1) := by decide +kernel
theorem dX3_delivers_52 : decode cX3_delivers 52 = .ok (.dup2, 1) := by decide +kernel
theorem dX3_delivers_53 : decode cX3_delivers 53 = .ok (.iaload, 1) := by decide +kernel
theorem dX3_delivers_54 : decode cX3_delivers 54 = .ok (.iconst 1, 1) := by decide +kernel
theorem dX3_delivers_55 : decode cX3_delivers 55 = .ok (.iadd, 1) := by decide +kernel
theorem dX3_delivers_56 : decode cX3_delivers 56 = .ok (.iastore, 1) := by decide +kernel
theorem dX3_delivers_57 : decode cX3_delivers 57 = .ok (.aload_n 0, 1) := by decide +kernel
theorem dX3_delivers_58 : decode cX3_delivers 58 = .ok (.getfield 83, 3) := by decide +kernel
theorem dX3_delivers_61 : decode cX3_delivers 61 = .ok (.iload_n 2, 1) := by decide +kernel
theorem dX3_delivers_62 : decode cX3_delivers 62 = .ok (.if_icmp .ne 8, 3) := by decide +kernel
theorem dX3_delivers_65 : decode cX3_delivers 65 = .ok (.aload_n 0, 1) := by decide +kernel
theorem dX3_delivers_66 : decode cX3_delivers 66 = .ok (.iload_n 1, 1) := by decide +kernel
theorem dX3_delivers_67 : decode cX3_delivers 67 = .ok (.invokevirtual 86, 3) := by decide +kernel
theorem dX3_delivers_70 : decode cX3_delivers 70 = .ok (.return_, 1) := by decide +kernel
theorem dX3_can_0 : decode cX3_can 0 = .ok (.iconst 1, 1) := by decide +kernel
theorem dX3_can_1 : decode cX3_can 1 = .ok (.istore_n 3, 1) := by decide +kernel
theorem dX3_can_2 : decode cX3_can 2 = .ok (.iconst 0, 1) := by decide +kernel
theorem dX3_can_3 : decode cX3_can 3 = .ok (.istore 4, 2) := by decide +kernel
theorem dX3_can_5 : decode cX3_can 5 = .ok (.iload 4, 2) := by decide +kernel
theorem dX3_can_7 : decode cX3_can 7 = .ok (.iconst 4, 1) := by decide +kernel
theorem dX3_can_8 : decode cX3_can 8 = .ok (.if_icmp .ge 75, 3) := by decide +kernel
theorem dX3_can_11 : decode cX3_can 11 = .ok (.aload_n 0, 1) := by decide +kernel
theorem dX3_can_12 : decode cX3_can 12 = .ok (.getfield 16, 3) := by decide +kernel
theorem dX3_can_15 : decode cX3_can 15 = .ok (.iconst 4, 1) := by decide +kernel
theorem dX3_can_16 : decode cX3_can 16 = .ok (.iload_n 1, 1) := by decide +kernel
theorem dX3_can_17 : decode cX3_can 17 = .ok (.imul, 1) := by decide +kernel
theorem dX3_can_18 : decode cX3_can 18 = .ok (.iload 4, 2) := by decide +kernel
theorem dX3_can_20 : decode cX3_can 20 = .ok (.iadd, 1) := by decide +kernel
theorem dX3_can_21 : decode cX3_can 21 = .ok (.iaload, 1) := by decide +kernel
theorem dX3_can_22 : decode cX3_can 22 = .ok (.istore 5, 2) := by decide +kernel
theorem dX3_can_24 : decode cX3_can 24 = .ok (.aload_n 0, 1) := by decide +kernel
theorem dX3_can_25 : decode cX3_can 25 = .ok (.getfield 38, 3) := by decide +kernel
theorem dX3_can_28 : decode cX3_can 28 = .ok (.iconst 4, 1) := by decide +kernel
theorem dX3_can_29 : decode cX3_can 29 = .ok (.iload_n 2, 1) := by decide +kernel
theorem dX3_can_30 : decode cX3_can 30 = .ok (.imul, 1) := by decide +kernel
theorem dX3_can_31 : decode cX3_can 31 = .ok (.iload 4, 2) := by decide +kernel
theorem dX3_can_33 : decode cX3_can 33 = .ok (.iadd, 1) := by decide +kernel
theorem dX3_can_34 : decode cX3_can 34 = .ok (.iaload, 1) := by decide +kernel
theorem dX3_can_35 : decode cX3_can 35 = .ok (.istore 6, 2) := by decide +kernel
theorem dX3_can_37 : decode cX3_can 37 = .ok (.iload_n 3, 1) := by decide +kernel
theorem dX3_can_38 : decode cX3_can 38 = .ok (.ifCond .eq 37, 3) := by decide +kernel
theorem dX3_can_41 : decode cX3_can 41 = .ok (.iload 4, 2) := by decide +kernel
theorem dX3_can_43 : decode cX3_can 43 = .ok (.aload_n 0, 1) := by decide +kernel
theorem dX3_can_44 : decode cX3_can 44 = .ok (.getfield 7, 3) := by decide +kernel
theorem dX3_can_47 : decode cX3_can 47 = .ok (.iload_n 1, 1) := by decide +kernel
theorem dX3_can_48 : decode cX3_can 48 = .ok (.iaload, 1) := by decide +kernel
theorem dX3_can_49 : decode cX3_can 49 = .ok (.if_icmp .ne 15, 3) := by decide +kernel
theorem dX3_can_52 : decode cX3_can 52 = .ok (.iload 5, 2) := by decide +kernel
theorem dX3_can_54 : decode cX3_can 54 = .ok (.iload 6, 2) := by decide +kernel
theorem dX3_can_56 : decode cX3_can 56 = .ok (.iconst 1, 1) := by decide +kernel
theorem dX3_can_57 : decode cX3_can 57 = .ok (.iadd, 1) := by decide +kernel
theorem dX3_can_58 : decode cX3_can 58 = .ok (.if_icmp .ne 17, 3) := by decide +kernel
theorem dX3_can_61 : decode cX3_can 61 = .ok (.goto 10, 3) := by decide +kernel
theorem dX3_can_64 : decode cX3_can 64 = .ok (.iload 5, 2) := by decide +kernel
theorem dX3_can_66 : decode cX3_can 66 = .ok (.iload 6, 2) := by decide +kernel
theorem dX3_can_68 : decode cX3_can 68 = .ok (.if_icmp .gt 7, 3) := by decide +kernel
theorem dX3_can_71 : decode cX3_can 71 = .ok (.iconst 1, 1) := by decide +kernel
theorem dX3_can_72 : decode cX3_can 72 = .ok (.goto 4, 3) := by decide +kernel
theorem dX3_can_75 : decode cX3_can 75 = .ok (.iconst 0, 1) := by decide +kernel
theorem dX3_can_76 : decode cX3_can 76 = .ok (.istore_n 3, 1) := by decide +kernel
theorem dX3_can_77 : decode cX3_can 77 = .ok (.iinc 4 1, 3) := by decide +kernel
theorem dX3_can_80 : decode cX3_can 80 = .ok (.goto (-75), 3) := by decide +kernel
theorem dX3_can_83 : decode cX3_can 83 = .ok (.iload_n 3, 1) := by decide +kernel
theorem dX3_can_84 : decode cX3_can 84 = .ok (.ireturn, 1) := by decide +kernel
theorem dX3_leavesQueue_0 : decode cX3_leavesQueue 0 = .ok (.iconst 0, 1) := by decide +kernel
theorem dX3_leavesQueue_1 : decode cX3_leavesQueue 1 = .ok (.istore_n 3, 1) := by decide +kernel
theorem dX3_leavesQueue_2 : decode cX3_leavesQueue 2 = .ok (.iconst 0, 1) := by decide +kernel
theorem dX3_leavesQueue_3 : decode cX3_leavesQueue 3 = .ok (.istore 4, 2) := by decide +kernel
theorem dX3_leavesQueue_5 : decode cX3_leavesQueue 5 = .ok (.iload 4, 2) := by decide +kernel
theorem dX3_leavesQueue_7 : decode cX3_leavesQueue 7 = .ok (.aload_n 0, 1) := by decide +kernel
theorem dX3_leavesQueue_8 : decode cX3_leavesQueue 8 = .ok (.getfield 47, 3) := by decide +kernel
theorem dX3_leavesQueue_11 : decode cX3_leavesQueue 11 = .ok (.iload_n 2, 1) := by decide +kernel
theorem dX3_leavesQueue_12 : decode cX3_leavesQueue 12 = .ok (.iaload, 1) := by decide +kernel
theorem dX3_leavesQueue_13 : decode cX3_leavesQueue 13 = .ok (.if_icmp .ge 50, 3) := by decide +kernel
theorem dX3_leavesQueue_16 : decode cX3_leavesQueue 16 = .ok (.aload_n 0, 1) := by decide +kernel
theorem dX3_leavesQueue_17 : decode cX3_leavesQueue 17 = .ok (.getfield 50, 3) := by decide +kernel
theorem dX3_leavesQueue_20 : decode cX3_leavesQueue 20 = .ok (.bipush 48, 2) := by decide +kernel
theorem dX3_leavesQueue_22 : decode cX3_leavesQueue 22 = .ok (.iload_n 2, 1) := by decide +kernel
theorem dX3_leavesQueue_23 : decode cX3_leavesQueue 23 = .ok (.imul, 1) := by decide +kernel
theorem dX3_leavesQueue_24 : decode cX3_leavesQueue 24 = .ok (.iload 4, 2) := by decide +kernel
theorem dX3_leavesQueue_26 : decode cX3_leavesQueue 26 = .ok (.iadd, 1) := by decide +kernel
theorem dX3_leavesQueue_27 : decode cX3_leavesQueue 27 = .ok (.iaload, 1) := by decide +kernel
theorem dX3_leavesQueue_28 : decode cX3_leavesQueue 28 = .ok (.istore 5, 2) := by decide +kernel
theorem dX3_leavesQueue_30 : decode cX3_leavesQueue 30 = .ok (.aload_n 0, 1) := by decide +kernel
theorem dX3_leavesQueue_31 : decode cX3_leavesQueue 31 = .ok (.getfield 50, 3) := by decide +kernel
theorem dX3_leavesQueue_34 : decode cX3_leavesQueue 34 = .ok (.bipush 48, 2) := by decide +kernel
theorem dX3_leavesQueue_36 : decode cX3_leavesQueue 36 = .ok (.iload_n 2, 1) := by decide +kernel
theorem dX3_leavesQueue_37 : decode cX3_leavesQueue 37 = .ok (.imul, 1) := by decide +kernel
theorem dX3_leavesQueue_38 : decode cX3_leavesQueue 38 = .ok (.iload_n 3, 1) := by decide +kernel
theorem dX3_leavesQueue_39 : decode cX3_leavesQueue 39 = .ok (.iadd, 1) := by decide +kernel
theorem dX3_leavesQueue_40 : decode cX3_leavesQueue 40 = .ok (.iload 5, 2) := by decide +kernel
theorem dX3_leavesQueue_42 : decode cX3_leavesQueue 42 = .ok (.iastore, 1) := by decide +kernel
theorem dX3_leavesQueue_43 : decode cX3_leavesQueue 43 = .ok (.iload_n 3, 1) := by decide +kernel
theorem dX3_leavesQueue_44 : decode cX3_leavesQueue 44 = .ok (.iload 5, 2) := by decide +kernel
theorem dX3_leavesQueue_46 : decode cX3_leavesQueue 46 = .ok (.iload_n 1, 1) := by decide +kernel
theorem dX3_leavesQueue_47 : decode cX3_leavesQueue 47 = .ok (.if_icmp .ne 7, 3) := by decide +kernel
theorem dX3_leavesQueue_50 : decode cX3_leavesQueue 50 = .ok (.iconst 0, 1) := by decide +kernel
theorem dX3_leavesQueue_51 : decode cX3_leavesQueue 51 = .ok (.goto 4, 3) := by decide +kernel
theorem dX3_leavesQueue_54 : decode cX3_leavesQueue 54 = .ok (.iconst 1, 1) := by decide +kernel
theorem dX3_leavesQueue_55 : decode cX3_leavesQueue 55 = .ok (.iadd, 1) := by decide +kernel
theorem dX3_leavesQueue_56 : decode cX3_leavesQueue 56 = .ok (.istore_n 3, 1) := by decide +kernel
theorem dX3_leavesQueue_57 : decode cX3_leavesQueue 57 = .ok (.iinc 4 1, 3) := by decide +kernel
theorem dX3_leavesQueue_60 : decode cX3_leavesQueue 60 = .ok (.goto (-55), 3) := by decide +kernel
theorem dX3_leavesQueue_63 : decode cX3_leavesQueue 63 = .ok (.aload_n 0, 1) := by decide +kernel
theorem dX3_leavesQueue_64 : decode cX3_leavesQueue 64 = .ok (.getfield 47, 3) := by decide +kernel
theorem dX3_leavesQueue_67 : decode cX3_leavesQueue 67 = .ok (.iload_n 2, 1) := by decide +kernel
theorem dX3_leavesQueue_68 : decode cX3_leavesQueue 68 = .ok (.iload_n 3, 1) := by decide +kernel
theorem dX3_leavesQueue_69 : decode cX3_leavesQueue 69 = .ok (.iastore, 1) := by decide +kernel
theorem dX3_leavesQueue_70 : decode cX3_leavesQueue 70 = .ok (.return_, 1) := by decide +kernel
theorem dX3_next_0 : decode cX3_next 0 = .ok (.iconst (-1), 1) := by decide +kernel
theorem dX3_next_1 : decode cX3_next 1 = .ok (.istore_n 2, 1) := by decide +kernel
theorem dX3_next_2 : decode cX3_next 2 = .ok (.aload_n 0, 1) := by decide +kernel
theorem dX3_next_3 : decode cX3_next 3 = .ok (.getfield 47, 3) := by decide +kernel
theorem dX3_next_6 : decode cX3_next 6 = .ok (.iload_n 1, 1) := by decide +kernel
theorem dX3_next_7 : decode cX3_next 7 = .ok (.iaload, 1) := by decide +kernel
theorem dX3_next_8 : decode cX3_next 8 = .ok (.iconst 1, 1) := by decide +kernel
theorem dX3_next_9 : decode cX3_next 9 = .ok (.isub, 1) := by decide +kernel
theorem dX3_next_10 : decode cX3_next 10 = .ok (.istore_n 3, 1) := by decide +kernel
theorem dX3_next_11 : decode cX3_next 11 = .ok (.iload_n 3, 1) := by decide +kernel
theorem dX3_next_12 : decode cX3_next 12 = .ok (.ifCond .lt 44, 3) := by decide +kernel
theorem dX3_next_15 : decode cX3_next 15 = .ok (.aload_n 0, 1) := by decide +kernel
theorem dX3_next_16 : decode cX3_next 16 = .ok (.aload_n 0, 1) := by decide +kernel
theorem dX3_next_17 : decode cX3_next 17 = .ok (.getfield 50, 3) := by decide +kernel
theorem dX3_next_20 : decode cX3_next 20 = .ok (.bipush 48, 2) := by decide +kernel
theorem dX3_next_22 : decode cX3_next 22 = .ok (.iload_n 1, 1) := by decide +kernel
theorem dX3_next_23 : decode cX3_next 23 = .ok (.imul, 1) := by decide +kernel
theorem dX3_next_24 : decode cX3_next 24 = .ok (.iload_n 3, 1) := by decide +kernel
theorem dX3_next_25 : decode cX3_next 25 = .ok (.iadd, 1) := by decide +kernel
theorem dX3_next_26 : decode cX3_next 26 = .ok (.iaload, 1) := by decide +kernel
theorem dX3_next_27 : decode cX3_next 27 = .ok (.iload_n 1, 1) := by decide +kernel
theorem dX3_next_28 : decode cX3_next 28 = .ok (.invokevirtual 90, 3) := by decide +kernel
theorem dX3_next_31 : decode cX3_next 31 = .ok (.ifCond .eq 17, 3) := by decide +kernel
theorem dX3_next_34 : decode cX3_next 34 = .ok (.aload_n 0, 1) := by decide +kernel
theorem dX3_next_35 : decode cX3_next 35 = .ok (.getfield 50, 3) := by decide +kernel
theorem dX3_next_38 : decode cX3_next 38 = .ok (.bipush 48, 2) := by decide +kernel
theorem dX3_next_40 : decode cX3_next 40 = .ok (.iload_n 1, 1) := by decide +kernel
theorem dX3_next_41 : decode cX3_next 41 = .ok (.imul, 1) := by decide +kernel
theorem dX3_next_42 : decode cX3_next 42 = .ok (.iload_n 3, 1) := by decide +kernel
theorem dX3_next_43 : decode cX3_next 43 = .ok (.iadd, 1) := by decide +kernel
theorem dX3_next_44 : decode cX3_next 44 = .ok (.iaload, 1) := by decide +kernel
theorem dX3_next_45 : decode cX3_next 45 = .ok (.goto 4, 3) := by decide +kernel
theorem dX3_next_48 : decode cX3_next 48 = .ok (.iload_n 2, 1) := by decide +kernel
theorem dX3_next_49 : decode cX3_next 49 = .ok (.istore_n 2, 1) := by decide +kernel
theorem dX3_next_50 : decode cX3_next 50 = .ok (.iinc 3 (-1), 3) := by decide +kernel
theorem dX3_next_53 : decode cX3_next 53 = .ok (.goto (-42), 3) := by decide +kernel
theorem dX3_next_56 : decode cX3_next 56 = .ok (.iload_n 2, 1) := by decide +kernel
theorem dX3_next_57 : decode cX3_next 57 = .ok (.ireturn, 1) := by decide +kernel
theorem dX3_comes_0 : decode cX3_comes 0 = .ok (.aload_n 0, 1) := by decide +kernel
theorem dX3_comes_1 : decode cX3_comes 1 = .ok (.getfield 13, 3) := by decide +kernel
theorem dX3_comes_4 : decode cX3_comes 4 = .ok (.iconst 4, 1) := by decide +kernel
theorem dX3_comes_5 : decode cX3_comes 5 = .ok (.iload_n 1, 1) := by decide +kernel
theorem dX3_comes_6 : decode cX3_comes 6 = .ok (.imul, 1) := by decide +kernel
theorem dX3_comes_7 : decode cX3_comes 7 = .ok (.iload_n 2, 1) := by decide +kernel
theorem dX3_comes_8 : decode cX3_comes 8 = .ok (.iadd, 1) := by decide +kernel
theorem dX3_comes_9 : decode cX3_comes 9 = .ok (.iconst 1, 1) := by decide +kernel
theorem dX3_comes_10 : decode cX3_comes 10 = .ok (.iastore, 1) := by decide +kernel
theorem dX3_comes_11 : decode cX3_comes 11 = .ok (.aload_n 0, 1) := by decide +kernel
theorem dX3_comes_12 : decode cX3_comes 12 = .ok (.getfield 50, 3) := by decide +kernel
theorem dX3_comes_15 : decode cX3_comes 15 = .ok (.bipush 48, 2) := by decide +kernel
theorem dX3_comes_17 : decode cX3_comes 17 = .ok (.iload_n 2, 1) := by decide +kernel
theorem dX3_comes_18 : decode cX3_comes 18 = .ok (.imul, 1) := by decide +kernel
theorem dX3_comes_19 : decode cX3_comes 19 = .ok (.aload_n 0, 1) := by decide +kernel
theorem dX3_comes_20 : decode cX3_comes 20 = .ok (.getfield 47, 3) := by decide +kernel
theorem dX3_comes_23 : decode cX3_comes 23 = .ok (.iload_n 2, 1) := by decide +kernel
theorem dX3_comes_24 : decode cX3_comes 24 = .ok (.iaload, 1) := by decide +kernel
theorem dX3_comes_25 : decode cX3_comes 25 = .ok (.iadd, 1) := by decide +kernel
theorem dX3_comes_26 : decode cX3_comes 26 = .ok (.iload_n 1, 1) := by decide +kernel
theorem dX3_comes_27 : decode cX3_comes 27 = .ok (.iastore, 1) := by decide +kernel
theorem dX3_comes_28 : decode cX3_comes 28 = .ok (.aload_n 0, 1) := by decide +kernel
theorem dX3_comes_29 : decode cX3_comes 29 = .ok (.getfield 47, 3) := by decide +kernel
theorem dX3_comes_32 : decode cX3_comes 32 = .ok (.iload_n 2, 1) := by decide +kernel
theorem dX3_comes_33 : decode cX3_comes 33 = .ok (.dup2, 1) := by decide +kernel
theorem dX3_comes_34 : decode cX3_comes 34 = .ok (.iaload, 1) := by decide +kernel
theorem dX3_comes_35 : decode cX3_comes 35 = .ok (.iconst 1, 1) := by decide +kernel
theorem dX3_comes_36 : decode cX3_comes 36 = .ok (.iadd, 1) := by decide +kernel
theorem dX3_comes_37 : decode cX3_comes 37 = .ok (.iastore, 1) := by decide +kernel
theorem dX3_comes_38 : decode cX3_comes 38 = .ok (.iconst 0, 1) := by decide +kernel
theorem dX3_comes_39 : decode cX3_comes 39 = .ok (.istore_n 3, 1) := by decide +kernel
theorem dX3_comes_40 : decode cX3_comes 40 = .ok (.aload_n 0, 1) := by decide +kernel
theorem dX3_comes_41 : decode cX3_comes 41 = .ok (.iload_n 1, 1) := by decide +kernel
theorem dX3_comes_42 : decode cX3_comes 42 = .ok (.iload_n 2, 1) := by decide +kernel
theorem dX3_comes_43 : decode cX3_comes 43 = .ok (.invokevirtual 90, 3) := by decide +kernel
theorem dX3_comes_46 : decode cX3_comes 46 = .ok (.ifCond .eq 7, 3) := by decide +kernel
theorem dX3_comes_49 : decode cX3_comes 49 = .ok (.iload_n 1, 1) := by decide +kernel
theorem dX3_comes_50 : decode cX3_comes 50 = .ok (.goto 4, 3) := by decide +kernel
theorem dX3_comes_53 : decode cX3_comes 53 = .ok (.iconst (-1), 1) := by decide +kernel
theorem dX3_comes_54 : decode cX3_comes 54 = .ok (.istore 4, 2) := by decide +kernel
theorem dX3_comes_56 : decode cX3_comes 56 = .ok (.iload 4, 2) := by decide +kernel
theorem dX3_comes_58 : decode cX3_comes 58 = .ok (.iconst (-1), 1) := by decide +kernel
theorem dX3_comes_59 : decode cX3_comes 59 = .ok (.if_icmp .eq 30, 3) := by decide +kernel
theorem dX3_comes_62 : decode cX3_comes 62 = .ok (.aload_n 0, 1) := by decide +kernel
theorem dX3_comes_63 : decode cX3_comes 63 = .ok (.iload 4, 2) := by decide +kernel
theorem dX3_comes_65 : decode cX3_comes 65 = .ok (.iload_n 2, 1) := by decide +kernel
theorem dX3_comes_66 : decode cX3_comes 66 = .ok (.invokevirtual 94, 3) := by decide +kernel
theorem dX3_comes_69 : decode cX3_comes 69 = .ok (.aload_n 0, 1) := by decide +kernel
theorem dX3_comes_70 : decode cX3_comes 70 = .ok (.iload 4, 2) := by decide +kernel
theorem dX3_comes_72 : decode cX3_comes 72 = .ok (.iload_n 2, 1) := by decide +kernel
theorem dX3_comes_73 : decode cX3_comes 73 = .ok (.invokevirtual 98, 3) := by decide +kernel
theorem dX3_comes_76 : decode cX3_comes 76 = .ok (.iinc 3 1, 3) := by decide +kernel
theorem dX3_comes_79 : decode cX3_comes 79 = .ok (.aload_n 0, 1) := by decide +kernel
theorem dX3_comes_80 : decode cX3_comes 80 = .ok (.iload_n 2, 1) := by decide +kernel
theorem dX3_comes_81 : decode cX3_comes 81 = .ok (.invokevirtual 101, 3) := by decide +kernel
theorem dX3_comes_84 : decode cX3_comes 84 = .ok (.istore 4, 2) := by decide +kernel
theorem dX3_comes_86 : decode cX3_comes 86 = .ok (.goto (-30), 3) := by decide +kernel
theorem dX3_comes_89 : decode cX3_comes 89 = .ok (.iload_n 3, 1) := by decide +kernel
theorem dX3_comes_90 : decode cX3_comes 90 = .ok (.ireturn, 1) := by decide +kernel
theorem dX3_proposes_0 : decode cX3_proposes 0 = .ok (.aload_n 0, 1) := by decide +kernel
theorem dX3_proposes_1 : decode cX3_proposes 1 = .ok (.getfield 53, 3) := by decide +kernel
theorem dX3_proposes_4 : decode cX3_proposes 4 = .ok (.iload_n 2, 1) := by decide +kernel
theorem dX3_proposes_5 : decode cX3_proposes 5 = .ok (.iaload, 1) := by decide +kernel
theorem dX3_proposes_6 : decode cX3_proposes 6 = .ok (.aload_n 0, 1) := by decide +kernel
theorem dX3_proposes_7 : decode cX3_proposes 7 = .ok (.getfield 105, 3) := by decide +kernel
theorem dX3_proposes_10 : decode cX3_proposes 10 = .ok (.if_icmp .le 12, 3) := by decide +kernel
theorem dX3_proposes_13 : decode cX3_proposes 13 = .ok (.aload_n 0, 1) := by decide +kernel
theorem dX3_proposes_14 : decode cX3_proposes 14 = .ok (.getfield 53, 3) := by decide +kernel
theorem dX3_proposes_17 : decode cX3_proposes 17 = .ok (.iload_n 2, 1) := by decide +kernel
theorem dX3_proposes_18 : decode cX3_proposes 18 = .ok (.iaload, 1) := by decide +kernel
theorem dX3_proposes_19 : decode cX3_proposes 19 = .ok (.goto 7, 3) := by decide +kernel
theorem dX3_proposes_22 : decode cX3_proposes 22 = .ok (.aload_n 0, 1) := by decide +kernel
theorem dX3_proposes_23 : decode cX3_proposes 23 = .ok (.getfield 105, 3) := by decide +kernel
theorem dX3_proposes_26 : decode cX3_proposes 26 = .ok (.istore_n 3, 1) := by decide +kernel
theorem dX3_proposes_27 : decode cX3_proposes 27 = .ok (.aload_n 0, 1) := by decide +kernel
theorem dX3_proposes_28 : decode cX3_proposes 28 = .ok (.getfield 53, 3) := by decide +kernel
theorem dX3_proposes_31 : decode cX3_proposes 31 = .ok (.iload_n 2, 1) := by decide +kernel
theorem dX3_proposes_32 : decode cX3_proposes 32 = .ok (.iload_n 3, 1) := by decide +kernel
theorem dX3_proposes_33 : decode cX3_proposes 33 = .ok (.iconst 1, 1) := by decide +kernel
theorem dX3_proposes_34 : decode cX3_proposes 34 = .ok (.iadd, 1) := by decide +kernel
theorem dX3_proposes_35 : decode cX3_proposes 35 = .ok (.iastore, 1) := by decide +kernel
theorem dX3_proposes_36 : decode cX3_proposes 36 = .ok (.aload_n 0, 1) := by decide +kernel
theorem dX3_proposes_37 : decode cX3_proposes 37 = .ok (.getfield 19, 3) := by decide +kernel
theorem dX3_proposes_40 : decode cX3_proposes 40 = .ok (.iconst 4, 1) := by decide +kernel
theorem dX3_proposes_41 : decode cX3_proposes 41 = .ok (.iload_n 1, 1) := by decide +kernel
theorem dX3_proposes_42 : decode cX3_proposes 42 = .ok (.imul, 1) := by decide +kernel
theorem dX3_proposes_43 : decode cX3_proposes 43 = .ok (.iload_n 2, 1) := by decide +kernel
theorem dX3_proposes_44 : decode cX3_proposes 44 = .ok (.iadd, 1) := by decide +kernel
theorem dX3_proposes_45 : decode cX3_proposes 45 = .ok (.iload_n 3, 1) := by decide +kernel
theorem dX3_proposes_46 : decode cX3_proposes 46 = .ok (.iconst 1, 1) := by decide +kernel
theorem dX3_proposes_47 : decode cX3_proposes 47 = .ok (.iadd, 1) := by decide +kernel
theorem dX3_proposes_48 : decode cX3_proposes 48 = .ok (.iastore, 1) := by decide +kernel
theorem dX3_proposes_49 : decode cX3_proposes 49 = .ok (.iconst 0, 1) := by decide +kernel
theorem dX3_proposes_50 : decode cX3_proposes 50 = .ok (.istore 4, 2) := by decide +kernel
theorem dX3_proposes_52 : decode cX3_proposes 52 = .ok (.iconst 1, 1) := by decide +kernel
theorem dX3_proposes_53 : decode cX3_proposes 53 = .ok (.istore 5, 2) := by decide +kernel
theorem dX3_proposes_55 : decode cX3_proposes 55 = .ok (.iconst 0, 1) := by decide +kernel
theorem dX3_proposes_56 : decode cX3_proposes 56 = .ok (.istore 6, 2) := by decide +kernel
theorem dX3_proposes_58 : decode cX3_proposes 58 = .ok (.iload 6, 2) := by decide +kernel
theorem dX3_proposes_60 : decode cX3_proposes 60 = .ok (.iconst 4, 1) := by decide +kernel
theorem dX3_proposes_61 : decode cX3_proposes 61 = .ok (.if_icmp .ge 76, 3) := by decide +kernel
theorem dX3_proposes_64 : decode cX3_proposes 64 = .ok (.aload_n 0, 1) := by decide +kernel
theorem dX3_proposes_65 : decode cX3_proposes 65 = .ok (.getfield 19, 3) := by decide +kernel
theorem dX3_proposes_68 : decode cX3_proposes 68 = .ok (.iconst 4, 1) := by decide +kernel
theorem dX3_proposes_69 : decode cX3_proposes 69 = .ok (.iload_n 1, 1) := by decide +kernel
theorem dX3_proposes_70 : decode cX3_proposes 70 = .ok (.imul, 1) := by decide +kernel
theorem dX3_proposes_71 : decode cX3_proposes 71 = .ok (.iload 6, 2) := by decide +kernel
theorem dX3_proposes_73 : decode cX3_proposes 73 = .ok (.iadd, 1) := by decide +kernel
theorem dX3_proposes_74 : decode cX3_proposes 74 = .ok (.iaload, 1) := by decide +kernel
theorem dX3_proposes_75 : decode cX3_proposes 75 = .ok (.istore 7, 2) := by decide +kernel
theorem dX3_proposes_77 : decode cX3_proposes 77 = .ok (.iload 5, 2) := by decide +kernel
theorem dX3_proposes_79 : decode cX3_proposes 79 = .ok (.ifCond .eq 23, 3) := by decide +kernel
theorem dX3_proposes_82 : decode cX3_proposes 82 = .ok (.aload_n 0, 1) := by decide +kernel
theorem dX3_proposes_83 : decode cX3_proposes 83 = .ok (.getfield 35, 3) := by decide +kernel
theorem dX3_proposes_86 : decode cX3_proposes 86 = .ok (.iload 6, 2) := by decide +kernel
theorem dX3_proposes_88 : decode cX3_proposes 88 = .ok (.baload, 1) := by decide +kernel
theorem dX3_proposes_89 : decode cX3_proposes 89 = .ok (.ifCond .ne 9, 3) := by decide +kernel
theorem dX3_proposes_92 : decode cX3_proposes 92 = .ok (.iload 7, 2) := by decide +kernel
theorem dX3_proposes_94 : decode cX3_proposes 94 = .ok (.iconst (-1), 1) := by decide +kernel
theorem dX3_proposes_95 : decode cX3_proposes 95 = .ok (.if_icmp .eq 7, 3) := by decide +kernel
theorem dX3_proposes_98 : decode cX3_proposes 98 = .ok (.iconst 1, 1) := by decide +kernel
theorem dX3_proposes_99 : decode cX3_proposes 99 = .ok (.goto 4, 3) := by decide +kernel
theorem dX3_proposes_102 : decode cX3_proposes 102 = .ok (.iconst 0, 1) := by decide +kernel
theorem dX3_proposes_103 : decode cX3_proposes 103 = .ok (.istore 5, 2) := by decide +kernel
theorem dX3_proposes_105 : decode cX3_proposes 105 = .ok (.aload_n 0, 1) := by decide +kernel
theorem dX3_proposes_106 : decode cX3_proposes 106 = .ok (.getfield 35, 3) := by decide +kernel
theorem dX3_proposes_109 : decode cX3_proposes 109 = .ok (.iload 6, 2) := by decide +kernel
theorem dX3_proposes_111 : decode cX3_proposes 111 = .ok (.baload, 1) := by decide +kernel
theorem dX3_proposes_112 : decode cX3_proposes 112 = .ok (.ifCond .ne 15, 3) := by decide +kernel
theorem dX3_proposes_115 : decode cX3_proposes 115 = .ok (.iload 7, 2) := by decide +kernel
theorem dX3_proposes_117 : decode cX3_proposes 117 = .ok (.iload 4, 2) := by decide +kernel
theorem dX3_proposes_119 : decode cX3_proposes 119 = .ok (.if_icmp .le 8, 3) := by decide +kernel
theorem dX3_proposes_122 : decode cX3_proposes 122 = .ok (.iload 7, 2) := by decide +kernel
theorem dX3_proposes_124 : decode cX3_proposes 124 = .ok (.goto 5, 3) := by decide +kernel
theorem dX3_proposes_127 : decode cX3_proposes 127 = .ok (.iload 4, 2) := by decide +kernel
theorem dX3_proposes_129 : decode cX3_proposes 129 = .ok (.istore 4, 2) := by decide +kernel
theorem dX3_proposes_131 : decode cX3_proposes 131 = .ok (.iinc 6 1, 3) := by decide +kernel
theorem dX3_proposes_134 : decode cX3_proposes 134 = .ok (.goto (-76), 3) := by decide +kernel
theorem dX3_proposes_137 : decode cX3_proposes 137 = .ok (.iload 5, 2) := by decide +kernel
theorem dX3_proposes_139 : decode cX3_proposes 139 = .ok (.ifCond .eq 10, 3) := by decide +kernel
theorem dX3_proposes_142 : decode cX3_proposes 142 = .ok (.aload_n 0, 1) := by decide +kernel
theorem dX3_proposes_143 : decode cX3_proposes 143 = .ok (.iload_n 1, 1) := by decide +kernel
theorem dX3_proposes_144 : decode cX3_proposes 144 = .ok (.iload 4, 2) := by decide +kernel
theorem dX3_proposes_146 : decode cX3_proposes 146 = .ok (.invokevirtual 108, 3) := by decide +kernel
theorem dX3_proposes_149 : decode cX3_proposes 149 = .ok (.return_, 1) := by decide +kernel
theorem dX3_agrees_0 : decode cX3_agrees 0 = .ok (.aload_n 0, 1) := by decide +kernel
theorem dX3_agrees_1 : decode cX3_agrees 1 = .ok (.getfield 29, 3) := by decide +kernel
theorem dX3_agrees_4 : decode cX3_agrees 4 = .ok (.iload_n 1, 1) := by decide +kernel
theorem dX3_agrees_5 : decode cX3_agrees 5 = .ok (.iload_n 2, 1) := by decide +kernel
theorem dX3_agrees_6 : decode cX3_agrees 6 = .ok (.iastore, 1) := by decide +kernel
theorem dX3_agrees_7 : decode cX3_agrees 7 = .ok (.aload_n 0, 1) := by decide +kernel
theorem dX3_agrees_8 : decode cX3_agrees 8 = .ok (.iload_n 2, 1) := by decide +kernel
theorem dX3_agrees_9 : decode cX3_agrees 9 = .ok (.aload_n 0, 1) := by decide +kernel
theorem dX3_agrees_10 : decode cX3_agrees 10 = .ok (.getfield 105, 3) := by decide +kernel
theorem dX3_agrees_13 : decode cX3_agrees 13 = .ok (.if_icmp .le 7, 3) := by decide +kernel
theorem dX3_agrees_16 : decode cX3_agrees 16 = .ok (.iload_n 2, 1) := by decide +kernel
theorem dX3_agrees_17 : decode cX3_agrees 17 = .ok (.goto 7, 3) := by decide +kernel
theorem dX3_agrees_20 : decode cX3_agrees 20 = .ok (.aload_n 0, 1) := by decide +kernel
theorem dX3_agrees_21 : decode cX3_agrees 21 = .ok (.getfield 105, 3) := by decide +kernel
theorem dX3_agrees_24 : decode cX3_agrees 24 = .ok (.putfield 105, 3) := by decide +kernel
theorem dX3_agrees_27 : decode cX3_agrees 27 = .ok (.return_, 1) := by decide +kernel
theorem dX3_send_0 : decode cX3_send 0 = .ok (.aload_n 0, 1) := by decide +kernel
theorem dX3_send_1 : decode cX3_send 1 = .ok (.iload_n 1, 1) := by decide +kernel
theorem dX3_send_2 : decode cX3_send 2 = .ok (.invokestatic 77, 3) := by decide +kernel
theorem dX3_send_5 : decode cX3_send 5 = .ok (.ifCond .ne 7, 3) := by decide +kernel
theorem dX3_send_8 : decode cX3_send 8 = .ok (.iconst 1, 1) := by decide +kernel
theorem dX3_send_9 : decode cX3_send 9 = .ok (.goto 33, 3) := by decide +kernel
theorem dX3_send_12 : decode cX3_send 12 = .ok (.aload_n 0, 1) := by decide +kernel
theorem dX3_send_13 : decode cX3_send 13 = .ok (.getfield 32, 3) := by decide +kernel
theorem dX3_send_16 : decode cX3_send 16 = .ok (.iload_n 1, 1) := by decide +kernel
theorem dX3_send_17 : decode cX3_send 17 = .ok (.baload, 1) := by decide +kernel
theorem dX3_send_18 : decode cX3_send 18 = .ok (.ifCond .ne 19, 3) := by decide +kernel
theorem dX3_send_21 : decode cX3_send 21 = .ok (.aload_n 0, 1) := by decide +kernel
theorem dX3_send_22 : decode cX3_send 22 = .ok (.invokevirtual 111, 3) := by decide +kernel
theorem dX3_send_25 : decode cX3_send 25 = .ok (.ifCond .ne 12, 3) := by decide +kernel
theorem dX3_send_28 : decode cX3_send 28 = .ok (.aload_n 0, 1) := by decide +kernel
theorem dX3_send_29 : decode cX3_send 29 = .ok (.getfield 70, 3) := by decide +kernel
theorem dX3_send_32 : decode cX3_send 32 = .ok (.bipush 48, 2) := by decide +kernel
theorem dX3_send_34 : decode cX3_send 34 = .ok (.if_icmp .ne 7, 3) := by decide +kernel
theorem dX3_send_37 : decode cX3_send 37 = .ok (.iconst 2, 1) := by decide +kernel
theorem dX3_send_38 : decode cX3_send 38 = .ok (.goto 4, 3) := by decide +kernel
theorem dX3_send_41 : decode cX3_send 41 = .ok (.iconst 0, 1) := by decide +kernel
theorem dX3_send_42 : decode cX3_send 42 = .ok (.putfield 62, 3) := by decide +kernel
theorem dX3_send_45 : decode cX3_send 45 = .ok (.aload_n 0, 1) := by decide +kernel
theorem dX3_send_46 : decode cX3_send 46 = .ok (.getfield 62, 3) := by decide +kernel
theorem dX3_send_49 : decode cX3_send 49 = .ok (.ifCond .le 5, 3) := by decide +kernel
theorem dX3_send_52 : decode cX3_send 52 = .ok (.iconst 0, 1) := by decide +kernel
theorem dX3_send_53 : decode cX3_send 53 = .ok (.ireturn, 1) := by decide +kernel
theorem dX3_send_54 : decode cX3_send 54 = .ok (.aload_n 0, 1) := by decide +kernel
theorem dX3_send_55 : decode cX3_send 55 = .ok (.getfield 70, 3) := by decide +kernel
theorem dX3_send_58 : decode cX3_send 58 = .ok (.istore_n 2, 1) := by decide +kernel
theorem dX3_send_59 : decode cX3_send 59 = .ok (.aload_n 0, 1) := by decide +kernel
theorem dX3_send_60 : decode cX3_send 60 = .ok (.dup, 1) := by decide +kernel
theorem dX3_send_61 : decode cX3_send 61 = .ok (.getfield 70, 3) := by decide +kernel
theorem dX3_send_64 : decode cX3_send 64 = .ok (.iconst 1, 1) := by decide +kernel
theorem dX3_send_65 : decode cX3_send 65 = .ok (.iadd, 1) := by decide +kernel
theorem dX3_send_66 : decode cX3_send 66 = .ok (.putfield 70, 3) := by decide +kernel
theorem dX3_send_69 : decode cX3_send 69 = .ok (.aload_n 0, 1) := by decide +kernel
theorem dX3_send_70 : decode cX3_send 70 = .ok (.getfield 7, 3) := by decide +kernel
theorem dX3_send_73 : decode cX3_send 73 = .ok (.iload_n 2, 1) := by decide +kernel
theorem dX3_send_74 : decode cX3_send 74 = .ok (.iload_n 1, 1) := by decide +kernel
theorem dX3_send_75 : decode cX3_send 75 = .ok (.iastore, 1) := by decide +kernel
theorem dX3_send_76 : decode cX3_send 76 = .ok (.aload_n 0, 1) := by decide +kernel
theorem dX3_send_77 : decode cX3_send 77 = .ok (.getfield 26, 3) := by decide +kernel
theorem dX3_send_80 : decode cX3_send 80 = .ok (.iload_n 2, 1) := by decide +kernel
theorem dX3_send_81 : decode cX3_send 81 = .ok (.iconst (-1), 1) := by decide +kernel
theorem dX3_send_82 : decode cX3_send 82 = .ok (.iastore, 1) := by decide +kernel
theorem dX3_send_83 : decode cX3_send 83 = .ok (.aload_n 0, 1) := by decide +kernel
theorem dX3_send_84 : decode cX3_send 84 = .ok (.getfield 29, 3) := by decide +kernel
theorem dX3_send_87 : decode cX3_send 87 = .ok (.iload_n 2, 1) := by decide +kernel
theorem dX3_send_88 : decode cX3_send 88 = .ok (.iconst (-1), 1) := by decide +kernel
theorem dX3_send_89 : decode cX3_send 89 = .ok (.iastore, 1) := by decide +kernel
theorem dX3_send_90 : decode cX3_send 90 = .ok (.aload_n 0, 1) := by decide +kernel
theorem dX3_send_91 : decode cX3_send 91 = .ok (.getfield 22, 3) := by decide +kernel
theorem dX3_send_94 : decode cX3_send 94 = .ok (.iload_n 2, 1) := by decide +kernel
theorem dX3_send_95 : decode cX3_send 95 = .ok (.iconst 0, 1) := by decide +kernel
theorem dX3_send_96 : decode cX3_send 96 = .ok (.bastore, 1) := by decide +kernel
theorem dX3_send_97 : decode cX3_send 97 = .ok (.iconst 0, 1) := by decide +kernel
theorem dX3_send_98 : decode cX3_send 98 = .ok (.istore_n 3, 1) := by decide +kernel
theorem dX3_send_99 : decode cX3_send 99 = .ok (.iload_n 3, 1) := by decide +kernel
theorem dX3_send_100 : decode cX3_send 100 = .ok (.iconst 4, 1) := by decide +kernel
theorem dX3_send_101 : decode cX3_send 101 = .ok (.if_icmp .ge 44, 3) := by decide +kernel
theorem dX3_send_104 : decode cX3_send 104 = .ok (.aload_n 0, 1) := by decide +kernel
theorem dX3_send_105 : decode cX3_send 105 = .ok (.getfield 13, 3) := by decide +kernel
theorem dX3_send_108 : decode cX3_send 108 = .ok (.iconst 4, 1) := by decide +kernel
theorem dX3_send_109 : decode cX3_send 109 = .ok (.iload_n 2, 1) := by decide +kernel
theorem dX3_send_110 : decode cX3_send 110 = .ok (.imul, 1) := by decide +kernel
theorem dX3_send_111 : decode cX3_send 111 = .ok (.iload_n 3, 1) := by decide +kernel
theorem dX3_send_112 : decode cX3_send 112 = .ok (.iadd, 1) := by decide +kernel
theorem dX3_send_113 : decode cX3_send 113 = .ok (.aload_n 0, 1) := by decide +kernel
theorem dX3_send_114 : decode cX3_send 114 = .ok (.getfield 35, 3) := by decide +kernel
theorem dX3_send_117 : decode cX3_send 117 = .ok (.iload_n 3, 1) := by decide +kernel
theorem dX3_send_118 : decode cX3_send 118 = .ok (.baload, 1) := by decide +kernel
theorem dX3_send_119 : decode cX3_send 119 = .ok (.ifCond .eq 7, 3) := by decide +kernel
theorem dX3_send_122 : decode cX3_send 122 = .ok (.iconst 3, 1) := by decide +kernel
theorem dX3_send_123 : decode cX3_send 123 = .ok (.goto 4, 3) := by decide +kernel
theorem dX3_send_126 : decode cX3_send 126 = .ok (.iconst 0, 1) := by decide +kernel
theorem dX3_send_127 : decode cX3_send 127 = .ok (.iastore, 1) := by decide +kernel
theorem dX3_send_128 : decode cX3_send 128 = .ok (.aload_n 0, 1) := by decide +kernel
theorem dX3_send_129 : decode cX3_send 129 = .ok (.getfield 19, 3) := by decide +kernel
theorem dX3_send_132 : decode cX3_send 132 = .ok (.iconst 4, 1) := by decide +kernel
theorem dX3_send_133 : decode cX3_send 133 = .ok (.iload_n 2, 1) := by decide +kernel
theorem dX3_send_134 : decode cX3_send 134 = .ok (.imul, 1) := by decide +kernel
theorem dX3_send_135 : decode cX3_send 135 = .ok (.iload_n 3, 1) := by decide +kernel
theorem dX3_send_136 : decode cX3_send 136 = .ok (.iadd, 1) := by decide +kernel
theorem dX3_send_137 : decode cX3_send 137 = .ok (.iconst (-1), 1) := by decide +kernel
theorem dX3_send_138 : decode cX3_send 138 = .ok (.iastore, 1) := by decide +kernel
theorem dX3_send_139 : decode cX3_send 139 = .ok (.iinc 3 1, 3) := by decide +kernel
theorem dX3_send_142 : decode cX3_send 142 = .ok (.goto (-43), 3) := by decide +kernel
theorem dX3_send_145 : decode cX3_send 145 = .ok (.aload_n 0, 1) := by decide +kernel
theorem dX3_send_146 : decode cX3_send 146 = .ok (.iload_n 2, 1) := by decide +kernel
theorem dX3_send_147 : decode cX3_send 147 = .ok (.iload_n 1, 1) := by decide +kernel
theorem dX3_send_148 : decode cX3_send 148 = .ok (.invokevirtual 98, 3) := by decide +kernel
theorem dX3_send_151 : decode cX3_send 151 = .ok (.iconst 0, 1) := by decide +kernel
theorem dX3_send_152 : decode cX3_send 152 = .ok (.istore_n 3, 1) := by decide +kernel
theorem dX3_send_153 : decode cX3_send 153 = .ok (.iload_n 3, 1) := by decide +kernel
theorem dX3_send_154 : decode cX3_send 154 = .ok (.iconst 4, 1) := by decide +kernel
theorem dX3_send_155 : decode cX3_send 155 = .ok (.if_icmp .ge 29, 3) := by decide +kernel
theorem dX3_send_158 : decode cX3_send 158 = .ok (.aload_n 0, 1) := by decide +kernel
theorem dX3_send_159 : decode cX3_send 159 = .ok (.getfield 16, 3) := by decide +kernel
theorem dX3_send_162 : decode cX3_send 162 = .ok (.iconst 4, 1) := by decide +kernel
theorem dX3_send_163 : decode cX3_send 163 = .ok (.iload_n 2, 1) := by decide +kernel
theorem dX3_send_164 : decode cX3_send 164 = .ok (.imul, 1) := by decide +kernel
theorem dX3_send_165 : decode cX3_send 165 = .ok (.iload_n 3, 1) := by decide +kernel
theorem dX3_send_166 : decode cX3_send 166 = .ok (.iadd, 1) := by decide +kernel
theorem dX3_send_167 : decode cX3_send 167 = .ok (.aload_n 0, 1) := by decide +kernel
theorem dX3_send_168 : decode cX3_send 168 = .ok (.getfield 38, 3) := by decide +kernel
theorem dX3_send_171 : decode cX3_send 171 = .ok (.iconst 4, 1) := by decide +kernel
theorem dX3_send_172 : decode cX3_send 172 = .ok (.iload_n 1, 1) := by decide +kernel
theorem dX3_send_173 : decode cX3_send 173 = .ok (.imul, 1) := by decide +kernel
theorem dX3_send_174 : decode cX3_send 174 = .ok (.iload_n 3, 1) := by decide +kernel
theorem dX3_send_175 : decode cX3_send 175 = .ok (.iadd, 1) := by decide +kernel
theorem dX3_send_176 : decode cX3_send 176 = .ok (.iaload, 1) := by decide +kernel
theorem dX3_send_177 : decode cX3_send 177 = .ok (.iastore, 1) := by decide +kernel
theorem dX3_send_178 : decode cX3_send 178 = .ok (.iinc 3 1, 3) := by decide +kernel
theorem dX3_send_181 : decode cX3_send 181 = .ok (.goto (-28), 3) := by decide +kernel
theorem dX3_send_184 : decode cX3_send 184 = .ok (.aload_n 0, 1) := by decide +kernel
theorem dX3_send_185 : decode cX3_send 185 = .ok (.iload_n 2, 1) := by decide +kernel
theorem dX3_send_186 : decode cX3_send 186 = .ok (.iload_n 1, 1) := by decide +kernel
theorem dX3_send_187 : decode cX3_send 187 = .ok (.invokevirtual 115, 3) := by decide +kernel
theorem dX3_send_190 : decode cX3_send 190 = .ok (.iload_n 2, 1) := by decide +kernel
theorem dX3_send_191 : decode cX3_send 191 = .ok (.ireturn, 1) := by decide +kernel
theorem dX3_arrive_0 : decode cX3_arrive 0 = .ok (.aload_n 0, 1) := by decide +kernel
theorem dX3_arrive_1 : decode cX3_arrive 1 = .ok (.aload_n 0, 1) := by decide +kernel
theorem dX3_arrive_2 : decode cX3_arrive 2 = .ok (.iload_n 1, 1) := by decide +kernel
theorem dX3_arrive_3 : decode cX3_arrive 3 = .ok (.iload_n 2, 1) := by decide +kernel
theorem dX3_arrive_4 : decode cX3_arrive 4 = .ok (.invokevirtual 118, 3) := by decide +kernel
theorem dX3_arrive_7 : decode cX3_arrive 7 = .ok (.ifCond .ne 7, 3) := by decide +kernel
theorem dX3_arrive_10 : decode cX3_arrive 10 = .ok (.iconst 1, 1) := by decide +kernel
theorem dX3_arrive_11 : decode cX3_arrive 11 = .ok (.goto 30, 3) := by decide +kernel
theorem dX3_arrive_14 : decode cX3_arrive 14 = .ok (.aload_n 0, 1) := by decide +kernel
theorem dX3_arrive_15 : decode cX3_arrive 15 = .ok (.getfield 32, 3) := by decide +kernel
theorem dX3_arrive_18 : decode cX3_arrive 18 = .ok (.iload_n 2, 1) := by decide +kernel
theorem dX3_arrive_19 : decode cX3_arrive 19 = .ok (.baload, 1) := by decide +kernel
theorem dX3_arrive_20 : decode cX3_arrive 20 = .ok (.ifCond .ne 16, 3) := by decide +kernel
theorem dX3_arrive_23 : decode cX3_arrive 23 = .ok (.aload_n 0, 1) := by decide +kernel
theorem dX3_arrive_24 : decode cX3_arrive 24 = .ok (.getfield 13, 3) := by decide +kernel
theorem dX3_arrive_27 : decode cX3_arrive 27 = .ok (.iconst 4, 1) := by decide +kernel
theorem dX3_arrive_28 : decode cX3_arrive 28 = .ok (.iload_n 1, 1) := by decide +kernel
theorem dX3_arrive_29 : decode cX3_arrive 29 = .ok (.imul, 1) := by decide +kernel
theorem dX3_arrive_30 : decode cX3_arrive 30 = .ok (.iload_n 2, 1) := by decide +kernel
theorem dX3_arrive_31 : decode cX3_arrive 31 = .ok (.iadd, 1) := by decide +kernel
theorem dX3_arrive_32 : decode cX3_arrive 32 = .ok (.iaload, 1) := by decide +kernel
theorem dX3_arrive_33 : decode cX3_arrive 33 = .ok (.ifCond .eq 7, 3) := by decide +kernel
theorem dX3_arrive_36 : decode cX3_arrive 36 = .ok (.iconst 2, 1) := by decide +kernel
theorem dX3_arrive_37 : decode cX3_arrive 37 = .ok (.goto 4, 3) := by decide +kernel
theorem dX3_arrive_40 : decode cX3_arrive 40 = .ok (.iconst 0, 1) := by decide +kernel
theorem dX3_arrive_41 : decode cX3_arrive 41 = .ok (.putfield 62, 3) := by decide +kernel
theorem dX3_arrive_44 : decode cX3_arrive 44 = .ok (.aload_n 0, 1) := by decide +kernel
theorem dX3_arrive_45 : decode cX3_arrive 45 = .ok (.getfield 62, 3) := by decide +kernel
theorem dX3_arrive_48 : decode cX3_arrive 48 = .ok (.ifCond .le 5, 3) := by decide +kernel
theorem dX3_arrive_51 : decode cX3_arrive 51 = .ok (.iconst 0, 1) := by decide +kernel
theorem dX3_arrive_52 : decode cX3_arrive 52 = .ok (.ireturn, 1) := by decide +kernel
theorem dX3_arrive_53 : decode cX3_arrive 53 = .ok (.aload_n 0, 1) := by decide +kernel
theorem dX3_arrive_54 : decode cX3_arrive 54 = .ok (.iload_n 1, 1) := by decide +kernel
theorem dX3_arrive_55 : decode cX3_arrive 55 = .ok (.iload_n 2, 1) := by decide +kernel
theorem dX3_arrive_56 : decode cX3_arrive 56 = .ok (.invokevirtual 115, 3) := by decide +kernel
theorem dX3_arrive_59 : decode cX3_arrive 59 = .ok (.aload_n 0, 1) := by decide +kernel
theorem dX3_arrive_60 : decode cX3_arrive 60 = .ok (.iload_n 1, 1) := by decide +kernel
theorem dX3_arrive_61 : decode cX3_arrive 61 = .ok (.iload_n 2, 1) := by decide +kernel
theorem dX3_arrive_62 : decode cX3_arrive 62 = .ok (.invokevirtual 121, 3) := by decide +kernel
theorem dX3_arrive_65 : decode cX3_arrive 65 = .ok (.ireturn, 1) := by decide +kernel
theorem dX3_lose_0 : decode cX3_lose 0 = .ok (.aload_n 0, 1) := by decide +kernel
theorem dX3_lose_1 : decode cX3_lose 1 = .ok (.aload_n 0, 1) := by decide +kernel
theorem dX3_lose_2 : decode cX3_lose 2 = .ok (.iload_n 1, 1) := by decide +kernel
theorem dX3_lose_3 : decode cX3_lose 3 = .ok (.iload_n 2, 1) := by decide +kernel
theorem dX3_lose_4 : decode cX3_lose 4 = .ok (.invokevirtual 118, 3) := by decide +kernel
theorem dX3_lose_7 : decode cX3_lose 7 = .ok (.ifCond .ne 7, 3) := by decide +kernel
theorem dX3_lose_10 : decode cX3_lose 10 = .ok (.iconst 1, 1) := by decide +kernel
theorem dX3_lose_11 : decode cX3_lose 11 = .ok (.goto 21, 3) := by decide +kernel
theorem dX3_lose_14 : decode cX3_lose 14 = .ok (.aload_n 0, 1) := by decide +kernel
theorem dX3_lose_15 : decode cX3_lose 15 = .ok (.getfield 13, 3) := by decide +kernel
theorem dX3_lose_18 : decode cX3_lose 18 = .ok (.iconst 4, 1) := by decide +kernel
theorem dX3_lose_19 : decode cX3_lose 19 = .ok (.iload_n 1, 1) := by decide +kernel
theorem dX3_lose_20 : decode cX3_lose 20 = .ok (.imul, 1) := by decide +kernel
theorem dX3_lose_21 : decode cX3_lose 21 = .ok (.iload_n 2, 1) := by decide +kernel
theorem dX3_lose_22 : decode cX3_lose 22 = .ok (.iadd, 1) := by decide +kernel
theorem dX3_lose_23 : decode cX3_lose 23 = .ok (.iaload, 1) := by decide +kernel
theorem dX3_lose_24 : decode cX3_lose 24 = .ok (.ifCond .ne 7, 3) := by decide +kernel
theorem dX3_lose_27 : decode cX3_lose 27 = .ok (.iconst 0, 1) := by decide +kernel
theorem dX3_lose_28 : decode cX3_lose 28 = .ok (.goto 4, 3) := by decide +kernel
theorem dX3_lose_31 : decode cX3_lose 31 = .ok (.iconst 2, 1) := by decide +kernel
theorem dX3_lose_32 : decode cX3_lose 32 = .ok (.putfield 62, 3) := by decide +kernel
theorem dX3_lose_35 : decode cX3_lose 35 = .ok (.aload_n 0, 1) := by decide +kernel
theorem dX3_lose_36 : decode cX3_lose 36 = .ok (.getfield 62, 3) := by decide +kernel
theorem dX3_lose_39 : decode cX3_lose 39 = .ok (.ifCond .ne 14, 3) := by decide +kernel
theorem dX3_lose_42 : decode cX3_lose 42 = .ok (.aload_n 0, 1) := by decide +kernel
theorem dX3_lose_43 : decode cX3_lose 43 = .ok (.getfield 13, 3) := by decide +kernel
theorem dX3_lose_46 : decode cX3_lose 46 = .ok (.iconst 4, 1) := by decide +kernel
theorem dX3_lose_47 : decode cX3_lose 47 = .ok (.iload_n 1, 1) := by decide +kernel
theorem dX3_lose_48 : decode cX3_lose 48 = .ok (.imul, 1) := by decide +kernel
theorem dX3_lose_49 : decode cX3_lose 49 = .ok (.iload_n 2, 1) := by decide +kernel
theorem dX3_lose_50 : decode cX3_lose 50 = .ok (.iadd, 1) := by decide +kernel
theorem dX3_lose_51 : decode cX3_lose 51 = .ok (.iconst 3, 1) := by decide +kernel
theorem dX3_lose_52 : decode cX3_lose 52 = .ok (.iastore, 1) := by decide +kernel
theorem dX3_lose_53 : decode cX3_lose 53 = .ok (.return_, 1) := by decide +kernel
theorem dX3_sendAgain_0 : decode cX3_sendAgain 0 = .ok (.aload_n 0, 1) := by decide +kernel
theorem dX3_sendAgain_1 : decode cX3_sendAgain 1 = .ok (.aload_n 0, 1) := by decide +kernel
theorem dX3_sendAgain_2 : decode cX3_sendAgain 2 = .ok (.iload_n 1, 1) := by decide +kernel
theorem dX3_sendAgain_3 : decode cX3_sendAgain 3 = .ok (.iload_n 2, 1) := by decide +kernel
theorem dX3_sendAgain_4 : decode cX3_sendAgain 4 = .ok (.invokevirtual 118, 3) := by decide +kernel
theorem dX3_sendAgain_7 : decode cX3_sendAgain 7 = .ok (.ifCond .ne 7, 3) := by decide +kernel
theorem dX3_sendAgain_10 : decode cX3_sendAgain 10 = .ok (.iconst 1, 1) := by decide +kernel
theorem dX3_sendAgain_11 : decode cX3_sendAgain 11 = .ok (.goto 22, 3) := by decide +kernel
theorem dX3_sendAgain_14 : decode cX3_sendAgain 14 = .ok (.aload_n 0, 1) := by decide +kernel
theorem dX3_sendAgain_15 : decode cX3_sendAgain 15 = .ok (.getfield 13, 3) := by decide +kernel
theorem dX3_sendAgain_18 : decode cX3_sendAgain 18 = .ok (.iconst 4, 1) := by decide +kernel
theorem dX3_sendAgain_19 : decode cX3_sendAgain 19 = .ok (.iload_n 1, 1) := by decide +kernel
theorem dX3_sendAgain_20 : decode cX3_sendAgain 20 = .ok (.imul, 1) := by decide +kernel
theorem dX3_sendAgain_21 : decode cX3_sendAgain 21 = .ok (.iload_n 2, 1) := by decide +kernel
theorem dX3_sendAgain_22 : decode cX3_sendAgain 22 = .ok (.iadd, 1) := by decide +kernel
theorem dX3_sendAgain_23 : decode cX3_sendAgain 23 = .ok (.iaload, 1) := by decide +kernel
theorem dX3_sendAgain_24 : decode cX3_sendAgain 24 = .ok (.iconst 3, 1) := by decide +kernel
theorem dX3_sendAgain_25 : decode cX3_sendAgain 25 = .ok (.if_icmp .ne 7, 3) := by decide +kernel
theorem dX3_sendAgain_28 : decode cX3_sendAgain 28 = .ok (.iconst 0, 1) := by decide +kernel
theorem dX3_sendAgain_29 : decode cX3_sendAgain 29 = .ok (.goto 4, 3) := by decide +kernel
theorem dX3_sendAgain_32 : decode cX3_sendAgain 32 = .ok (.iconst 2, 1) := by decide +kernel
theorem dX3_sendAgain_33 : decode cX3_sendAgain 33 = .ok (.putfield 62, 3) := by decide +kernel
theorem dX3_sendAgain_36 : decode cX3_sendAgain 36 = .ok (.aload_n 0, 1) := by decide +kernel
theorem dX3_sendAgain_37 : decode cX3_sendAgain 37 = .ok (.getfield 62, 3) := by decide +kernel
theorem dX3_sendAgain_40 : decode cX3_sendAgain 40 = .ok (.ifCond .ne 14, 3) := by decide +kernel
theorem dX3_sendAgain_43 : decode cX3_sendAgain 43 = .ok (.aload_n 0, 1) := by decide +kernel
theorem dX3_sendAgain_44 : decode cX3_sendAgain 44 = .ok (.getfield 13, 3) := by decide +kernel
theorem dX3_sendAgain_47 : decode cX3_sendAgain 47 = .ok (.iconst 4, 1) := by decide +kernel
theorem dX3_sendAgain_48 : decode cX3_sendAgain 48 = .ok (.iload_n 1, 1) := by decide +kernel
theorem dX3_sendAgain_49 : decode cX3_sendAgain 49 = .ok (.imul, 1) := by decide +kernel
theorem dX3_sendAgain_50 : decode cX3_sendAgain 50 = .ok (.iload_n 2, 1) := by decide +kernel
theorem dX3_sendAgain_51 : decode cX3_sendAgain 51 = .ok (.iadd, 1) := by decide +kernel
theorem dX3_sendAgain_52 : decode cX3_sendAgain 52 = .ok (.iconst 0, 1) := by decide +kernel
theorem dX3_sendAgain_53 : decode cX3_sendAgain 53 = .ok (.iastore, 1) := by decide +kernel
theorem dX3_sendAgain_54 : decode cX3_sendAgain 54 = .ok (.return_, 1) := by decide +kernel
theorem dX3_messages_0 : decode cX3_messages 0 = .ok (.aload_n 0, 1) := by decide +kernel
theorem dX3_messages_1 : decode cX3_messages 1 = .ok (.iconst 0, 1) := by decide +kernel
theorem dX3_messages_2 : decode cX3_messages 2 = .ok (.putfield 62, 3) := by decide +kernel
theorem dX3_messages_5 : decode cX3_messages 5 = .ok (.aload_n 0, 1) := by decide +kernel
theorem dX3_messages_6 : decode cX3_messages 6 = .ok (.getfield 70, 3) := by decide +kernel
theorem dX3_messages_9 : decode cX3_messages 9 = .ok (.ireturn, 1) := by decide +kernel
theorem dX3_sender_0 : decode cX3_sender 0 = .ok (.aload_n 0, 1) := by decide +kernel
theorem dX3_sender_1 : decode cX3_sender 1 = .ok (.aload_n 0, 1) := by decide +kernel
theorem dX3_sender_2 : decode cX3_sender 2 = .ok (.iload_n 1, 1) := by decide +kernel
theorem dX3_sender_3 : decode cX3_sender 3 = .ok (.invokevirtual 73, 3) := by decide +kernel
theorem dX3_sender_6 : decode cX3_sender 6 = .ok (.ifCond .eq 7, 3) := by decide +kernel
theorem dX3_sender_9 : decode cX3_sender 9 = .ok (.iconst 0, 1) := by decide +kernel
theorem dX3_sender_10 : decode cX3_sender 10 = .ok (.goto 4, 3) := by decide +kernel
theorem dX3_sender_13 : decode cX3_sender 13 = .ok (.iconst 1, 1) := by decide +kernel
theorem dX3_sender_14 : decode cX3_sender 14 = .ok (.putfield 62, 3) := by decide +kernel
theorem dX3_sender_17 : decode cX3_sender 17 = .ok (.aload_n 0, 1) := by decide +kernel
theorem dX3_sender_18 : decode cX3_sender 18 = .ok (.getfield 62, 3) := by decide +kernel
theorem dX3_sender_21 : decode cX3_sender 21 = .ok (.ifCond .le 7, 3) := by decide +kernel
theorem dX3_sender_24 : decode cX3_sender 24 = .ok (.iconst 0, 1) := by decide +kernel
theorem dX3_sender_25 : decode cX3_sender 25 = .ok (.goto 9, 3) := by decide +kernel
theorem dX3_sender_28 : decode cX3_sender 28 = .ok (.aload_n 0, 1) := by decide +kernel
theorem dX3_sender_29 : decode cX3_sender 29 = .ok (.getfield 7, 3) := by decide +kernel
theorem dX3_sender_32 : decode cX3_sender 32 = .ok (.iload_n 1, 1) := by decide +kernel
theorem dX3_sender_33 : decode cX3_sender 33 = .ok (.iaload, 1) := by decide +kernel
theorem dX3_sender_34 : decode cX3_sender 34 = .ok (.ireturn, 1) := by decide +kernel
theorem dX3_copy_0 : decode cX3_copy 0 = .ok (.aload_n 0, 1) := by decide +kernel
theorem dX3_copy_1 : decode cX3_copy 1 = .ok (.aload_n 0, 1) := by decide +kernel
theorem dX3_copy_2 : decode cX3_copy 2 = .ok (.iload_n 1, 1) := by decide +kernel
theorem dX3_copy_3 : decode cX3_copy 3 = .ok (.iload_n 2, 1) := by decide +kernel
theorem dX3_copy_4 : decode cX3_copy 4 = .ok (.invokevirtual 118, 3) := by decide +kernel
theorem dX3_copy_7 : decode cX3_copy 7 = .ok (.ifCond .eq 7, 3) := by decide +kernel
theorem dX3_copy_10 : decode cX3_copy 10 = .ok (.iconst 0, 1) := by decide +kernel
theorem dX3_copy_11 : decode cX3_copy 11 = .ok (.goto 4, 3) := by decide +kernel
theorem dX3_copy_14 : decode cX3_copy 14 = .ok (.iconst 1, 1) := by decide +kernel
theorem dX3_copy_15 : decode cX3_copy 15 = .ok (.putfield 62, 3) := by decide +kernel
theorem dX3_copy_18 : decode cX3_copy 18 = .ok (.aload_n 0, 1) := by decide +kernel
theorem dX3_copy_19 : decode cX3_copy 19 = .ok (.getfield 62, 3) := by decide +kernel
theorem dX3_copy_22 : decode cX3_copy 22 = .ok (.ifCond .le 7, 3) := by decide +kernel
theorem dX3_copy_25 : decode cX3_copy 25 = .ok (.iconst 0, 1) := by decide +kernel
theorem dX3_copy_26 : decode cX3_copy 26 = .ok (.goto 13, 3) := by decide +kernel
theorem dX3_copy_29 : decode cX3_copy 29 = .ok (.aload_n 0, 1) := by decide +kernel
theorem dX3_copy_30 : decode cX3_copy 30 = .ok (.getfield 13, 3) := by decide +kernel
theorem dX3_copy_33 : decode cX3_copy 33 = .ok (.iconst 4, 1) := by decide +kernel
theorem dX3_copy_34 : decode cX3_copy 34 = .ok (.iload_n 1, 1) := by decide +kernel
theorem dX3_copy_35 : decode cX3_copy 35 = .ok (.imul, 1) := by decide +kernel
theorem dX3_copy_36 : decode cX3_copy 36 = .ok (.iload_n 2, 1) := by decide +kernel
theorem dX3_copy_37 : decode cX3_copy 37 = .ok (.iadd, 1) := by decide +kernel
theorem dX3_copy_38 : decode cX3_copy 38 = .ok (.iaload, 1) := by decide +kernel
theorem dX3_copy_39 : decode cX3_copy 39 = .ok (.ireturn, 1) := by decide +kernel
theorem dX3_clock_0 : decode cX3_clock 0 = .ok (.aload_n 0, 1) := by decide +kernel
theorem dX3_clock_1 : decode cX3_clock 1 = .ok (.iload_n 1, 1) := by decide +kernel
theorem dX3_clock_2 : decode cX3_clock 2 = .ok (.invokestatic 77, 3) := by decide +kernel
theorem dX3_clock_5 : decode cX3_clock 5 = .ok (.ifCond .eq 14, 3) := by decide +kernel
theorem dX3_clock_8 : decode cX3_clock 8 = .ok (.iload_n 2, 1) := by decide +kernel
theorem dX3_clock_9 : decode cX3_clock 9 = .ok (.invokestatic 77, 3) := by decide +kernel
theorem dX3_clock_12 : decode cX3_clock 12 = .ok (.ifCond .eq 7, 3) := by decide +kernel
theorem dX3_clock_15 : decode cX3_clock 15 = .ok (.iconst 0, 1) := by decide +kernel
theorem dX3_clock_16 : decode cX3_clock 16 = .ok (.goto 4, 3) := by decide +kernel
theorem dX3_clock_19 : decode cX3_clock 19 = .ok (.iconst 1, 1) := by decide +kernel
theorem dX3_clock_20 : decode cX3_clock 20 = .ok (.putfield 62, 3) := by decide +kernel
theorem dX3_clock_23 : decode cX3_clock 23 = .ok (.aload_n 0, 1) := by decide +kernel
theorem dX3_clock_24 : decode cX3_clock 24 = .ok (.getfield 62, 3) := by decide +kernel
theorem dX3_clock_27 : decode cX3_clock 27 = .ok (.ifCond .le 7, 3) := by decide +kernel
theorem dX3_clock_30 : decode cX3_clock 30 = .ok (.iconst 0, 1) := by decide +kernel
theorem dX3_clock_31 : decode cX3_clock 31 = .ok (.goto 13, 3) := by decide +kernel
theorem dX3_clock_34 : decode cX3_clock 34 = .ok (.aload_n 0, 1) := by decide +kernel
theorem dX3_clock_35 : decode cX3_clock 35 = .ok (.getfield 38, 3) := by decide +kernel
theorem dX3_clock_38 : decode cX3_clock 38 = .ok (.iconst 4, 1) := by decide +kernel
theorem dX3_clock_39 : decode cX3_clock 39 = .ok (.iload_n 1, 1) := by decide +kernel
theorem dX3_clock_40 : decode cX3_clock 40 = .ok (.imul, 1) := by decide +kernel
theorem dX3_clock_41 : decode cX3_clock 41 = .ok (.iload_n 2, 1) := by decide +kernel
theorem dX3_clock_42 : decode cX3_clock 42 = .ok (.iadd, 1) := by decide +kernel
theorem dX3_clock_43 : decode cX3_clock 43 = .ok (.iaload, 1) := by decide +kernel
theorem dX3_clock_44 : decode cX3_clock 44 = .ok (.ireturn, 1) := by decide +kernel
theorem dX3_stamp_0 : decode cX3_stamp 0 = .ok (.aload_n 0, 1) := by decide +kernel
theorem dX3_stamp_1 : decode cX3_stamp 1 = .ok (.aload_n 0, 1) := by decide +kernel
theorem dX3_stamp_2 : decode cX3_stamp 2 = .ok (.iload_n 1, 1) := by decide +kernel
theorem dX3_stamp_3 : decode cX3_stamp 3 = .ok (.iload_n 2, 1) := by decide +kernel
theorem dX3_stamp_4 : decode cX3_stamp 4 = .ok (.invokevirtual 118, 3) := by decide +kernel
theorem dX3_stamp_7 : decode cX3_stamp 7 = .ok (.ifCond .eq 7, 3) := by decide +kernel
theorem dX3_stamp_10 : decode cX3_stamp 10 = .ok (.iconst 0, 1) := by decide +kernel
theorem dX3_stamp_11 : decode cX3_stamp 11 = .ok (.goto 4, 3) := by decide +kernel
theorem dX3_stamp_14 : decode cX3_stamp 14 = .ok (.iconst 1, 1) := by decide +kernel
theorem dX3_stamp_15 : decode cX3_stamp 15 = .ok (.putfield 62, 3) := by decide +kernel
theorem dX3_stamp_18 : decode cX3_stamp 18 = .ok (.aload_n 0, 1) := by decide +kernel
theorem dX3_stamp_19 : decode cX3_stamp 19 = .ok (.getfield 62, 3) := by decide +kernel
theorem dX3_stamp_22 : decode cX3_stamp 22 = .ok (.ifCond .le 7, 3) := by decide +kernel
theorem dX3_stamp_25 : decode cX3_stamp 25 = .ok (.iconst 0, 1) := by decide +kernel
theorem dX3_stamp_26 : decode cX3_stamp 26 = .ok (.goto 13, 3) := by decide +kernel
theorem dX3_stamp_29 : decode cX3_stamp 29 = .ok (.aload_n 0, 1) := by decide +kernel
theorem dX3_stamp_30 : decode cX3_stamp 30 = .ok (.getfield 16, 3) := by decide +kernel
theorem dX3_stamp_33 : decode cX3_stamp 33 = .ok (.iconst 4, 1) := by decide +kernel
theorem dX3_stamp_34 : decode cX3_stamp 34 = .ok (.iload_n 1, 1) := by decide +kernel
theorem dX3_stamp_35 : decode cX3_stamp 35 = .ok (.imul, 1) := by decide +kernel
theorem dX3_stamp_36 : decode cX3_stamp 36 = .ok (.iload_n 2, 1) := by decide +kernel
theorem dX3_stamp_37 : decode cX3_stamp 37 = .ok (.iadd, 1) := by decide +kernel
theorem dX3_stamp_38 : decode cX3_stamp 38 = .ok (.iaload, 1) := by decide +kernel
theorem dX3_stamp_39 : decode cX3_stamp 39 = .ok (.ireturn, 1) := by decide +kernel
theorem dX3_isBefore_0 : decode cX3_isBefore 0 = .ok (.aload_n 0, 1) := by decide +kernel
theorem dX3_isBefore_1 : decode cX3_isBefore 1 = .ok (.getfield 7, 3) := by decide +kernel
theorem dX3_isBefore_4 : decode cX3_isBefore 4 = .ok (.iload_n 1, 1) := by decide +kernel
theorem dX3_isBefore_5 : decode cX3_isBefore 5 = .ok (.iaload, 1) := by decide +kernel
theorem dX3_isBefore_6 : decode cX3_isBefore 6 = .ok (.istore_n 3, 1) := by decide +kernel
theorem dX3_isBefore_7 : decode cX3_isBefore 7 = .ok (.iload_n 1, 1) := by decide +kernel
theorem dX3_isBefore_8 : decode cX3_isBefore 8 = .ok (.iload_n 2, 1) := by decide +kernel
theorem dX3_isBefore_9 : decode cX3_isBefore 9 = .ok (.if_icmp .eq 30, 3) := by decide +kernel
theorem dX3_isBefore_12 : decode cX3_isBefore 12 = .ok (.aload_n 0, 1) := by decide +kernel
theorem dX3_isBefore_13 : decode cX3_isBefore 13 = .ok (.getfield 16, 3) := by decide +kernel
theorem dX3_isBefore_16 : decode cX3_isBefore 16 = .ok (.iconst 4, 1) := by decide +kernel
theorem dX3_isBefore_17 : decode cX3_isBefore 17 = .ok (.iload_n 2, 1) := by decide +kernel
theorem dX3_isBefore_18 : decode cX3_isBefore 18 = .ok (.imul, 1) := by decide +kernel
theorem dX3_isBefore_19 : decode cX3_isBefore 19 = .ok (.iload_n 3, 1) := by decide +kernel
theorem dX3_isBefore_20 : decode cX3_isBefore 20 = .ok (.iadd, 1) := by decide +kernel
theorem dX3_isBefore_21 : decode cX3_isBefore 21 = .ok (.iaload, 1) := by decide +kernel
theorem dX3_isBefore_22 : decode cX3_isBefore 22 = .ok (.aload_n 0, 1) := by decide +kernel
theorem dX3_isBefore_23 : decode cX3_isBefore 23 = .ok (.getfield 16, 3) := by decide +kernel
theorem dX3_isBefore_26 : decode cX3_isBefore 26 = .ok (.iconst 4, 1) := by decide +kernel
theorem dX3_isBefore_27 : decode cX3_isBefore 27 = .ok (.iload_n 1, 1) := by decide +kernel
theorem dX3_isBefore_28 : decode cX3_isBefore 28 = .ok (.imul, 1) := by decide +kernel
theorem dX3_isBefore_29 : decode cX3_isBefore 29 = .ok (.iload_n 3, 1) := by decide +kernel
theorem dX3_isBefore_30 : decode cX3_isBefore 30 = .ok (.iadd, 1) := by decide +kernel
theorem dX3_isBefore_31 : decode cX3_isBefore 31 = .ok (.iaload, 1) := by decide +kernel
theorem dX3_isBefore_32 : decode cX3_isBefore 32 = .ok (.if_icmp .lt 7, 3) := by decide +kernel
theorem dX3_isBefore_35 : decode cX3_isBefore 35 = .ok (.iconst 1, 1) := by decide +kernel
theorem dX3_isBefore_36 : decode cX3_isBefore 36 = .ok (.goto 4, 3) := by decide +kernel
theorem dX3_isBefore_39 : decode cX3_isBefore 39 = .ok (.iconst 0, 1) := by decide +kernel
theorem dX3_isBefore_40 : decode cX3_isBefore 40 = .ok (.ireturn, 1) := by decide +kernel
theorem dX3_areMessages_0 : decode cX3_areMessages 0 = .ok (.aload_n 0, 1) := by decide +kernel
theorem dX3_areMessages_1 : decode cX3_areMessages 1 = .ok (.aload_n 0, 1) := by decide +kernel
theorem dX3_areMessages_2 : decode cX3_areMessages 2 = .ok (.iload_n 1, 1) := by decide +kernel
theorem dX3_areMessages_3 : decode cX3_areMessages 3 = .ok (.invokevirtual 73, 3) := by decide +kernel
theorem dX3_areMessages_6 : decode cX3_areMessages 6 = .ok (.ifCond .eq 15, 3) := by decide +kernel
theorem dX3_areMessages_9 : decode cX3_areMessages 9 = .ok (.aload_n 0, 1) := by decide +kernel
theorem dX3_areMessages_10 : decode cX3_areMessages 10 = .ok (.iload_n 2, 1) := by decide +kernel
theorem dX3_areMessages_11 : decode cX3_areMessages 11 = .ok (.invokevirtual 73, 3) := by decide +kernel
theorem dX3_areMessages_14 : decode cX3_areMessages 14 = .ok (.ifCond .eq 7, 3) := by decide +kernel
theorem dX3_areMessages_17 : decode cX3_areMessages 17 = .ok (.iconst 0, 1) := by decide +kernel
theorem dX3_areMessages_18 : decode cX3_areMessages 18 = .ok (.goto 4, 3) := by decide +kernel
theorem dX3_areMessages_21 : decode cX3_areMessages 21 = .ok (.iconst 1, 1) := by decide +kernel
theorem dX3_areMessages_22 : decode cX3_areMessages 22 = .ok (.putfield 62, 3) := by decide +kernel
theorem dX3_areMessages_25 : decode cX3_areMessages 25 = .ok (.aload_n 0, 1) := by decide +kernel
theorem dX3_areMessages_26 : decode cX3_areMessages 26 = .ok (.getfield 62, 3) := by decide +kernel
theorem dX3_areMessages_29 : decode cX3_areMessages 29 = .ok (.ifCond .ne 7, 3) := by decide +kernel
theorem dX3_areMessages_32 : decode cX3_areMessages 32 = .ok (.iconst 1, 1) := by decide +kernel
theorem dX3_areMessages_33 : decode cX3_areMessages 33 = .ok (.goto 4, 3) := by decide +kernel
theorem dX3_areMessages_36 : decode cX3_areMessages 36 = .ok (.iconst 0, 1) := by decide +kernel
theorem dX3_areMessages_37 : decode cX3_areMessages 37 = .ok (.ireturn, 1) := by decide +kernel
theorem dX3_precedes_0 : decode cX3_precedes 0 = .ok (.aload_n 0, 1) := by decide +kernel
theorem dX3_precedes_1 : decode cX3_precedes 1 = .ok (.iload_n 1, 1) := by decide +kernel
theorem dX3_precedes_2 : decode cX3_precedes 2 = .ok (.iload_n 2, 1) := by decide +kernel
theorem dX3_precedes_3 : decode cX3_precedes 3 = .ok (.invokevirtual 125, 3) := by decide +kernel
theorem dX3_precedes_6 : decode cX3_precedes 6 = .ok (.ifCond .eq 16, 3) := by decide +kernel
theorem dX3_precedes_9 : decode cX3_precedes 9 = .ok (.aload_n 0, 1) := by decide +kernel
theorem dX3_precedes_10 : decode cX3_precedes 10 = .ok (.iload_n 1, 1) := by decide +kernel
theorem dX3_precedes_11 : decode cX3_precedes 11 = .ok (.iload_n 2, 1) := by decide +kernel
theorem dX3_precedes_12 : decode cX3_precedes 12 = .ok (.invokevirtual 128, 3) := by decide +kernel
theorem dX3_precedes_15 : decode cX3_precedes 15 = .ok (.ifCond .eq 7, 3) := by decide +kernel
theorem dX3_precedes_18 : decode cX3_precedes 18 = .ok (.iconst 1, 1) := by decide +kernel
theorem dX3_precedes_19 : decode cX3_precedes 19 = .ok (.goto 4, 3) := by decide +kernel
theorem dX3_precedes_22 : decode cX3_precedes 22 = .ok (.iconst 0, 1) := by decide +kernel
theorem dX3_precedes_23 : decode cX3_precedes 23 = .ok (.ireturn, 1) := by decide +kernel
theorem dX3_precedesByHistory_0 : decode cX3_precedesByHistory 0 = .ok (.aload_n 0, 1) := by decide +kernel
theorem dX3_precedesByHistory_1 : decode cX3_precedesByHistory 1 = .ok (.iload_n 1, 1) := by decide +kernel
theorem dX3_precedesByHistory_2 : decode cX3_precedesByHistory 2 = .ok (.iload_n 2, 1) := by decide +kernel
theorem dX3_precedesByHistory_3 : decode cX3_precedesByHistory 3 = .ok (.invokevirtual 125, 3) := by decide +kernel
theorem dX3_precedesByHistory_6 : decode cX3_precedesByHistory 6 = .ok (.ifCond .eq 16, 3) := by decide +kernel
theorem dX3_precedesByHistory_9 : decode cX3_precedesByHistory 9 = .ok (.aload_n 0, 1) := by decide +kernel
theorem dX3_precedesByHistory_10 : decode cX3_precedesByHistory 10 = .ok (.iload_n 1, 1) := by decide +kernel
theorem dX3_precedesByHistory_11 : decode cX3_precedesByHistory 11 = .ok (.iload_n 2, 1) := by decide +kernel
theorem dX3_precedesByHistory_12 : decode cX3_precedesByHistory 12 = .ok (.invokevirtual 128, 3) := by decide +kernel
theorem dX3_precedesByHistory_15 : decode cX3_precedesByHistory 15 = .ok (.ifCond .eq 7, 3) := by decide +kernel
theorem dX3_precedesByHistory_18 : decode cX3_precedesByHistory 18 = .ok (.iconst 1, 1) := by decide +kernel
theorem dX3_precedesByHistory_19 : decode cX3_precedesByHistory 19 = .ok (.goto 4, 3) := by decide +kernel
theorem dX3_precedesByHistory_22 : decode cX3_precedesByHistory 22 = .ok (.iconst 0, 1) := by decide +kernel
theorem dX3_precedesByHistory_23 : decode cX3_precedesByHistory 23 = .ok (.ireturn, 1) := by decide +kernel
theorem dX3_areConcurrent_0 : decode cX3_areConcurrent 0 = .ok (.aload_n 0, 1) := by decide +kernel
theorem dX3_areConcurrent_1 : decode cX3_areConcurrent 1 = .ok (.iload_n 1, 1) := by decide +kernel
theorem dX3_areConcurrent_2 : decode cX3_areConcurrent 2 = .ok (.iload_n 2, 1) := by decide +kernel
theorem dX3_areConcurrent_3 : decode cX3_areConcurrent 3 = .ok (.invokevirtual 125, 3) := by decide +kernel
theorem dX3_areConcurrent_6 : decode cX3_areConcurrent 6 = .ok (.ifCond .eq 30, 3) := by decide +kernel
theorem dX3_areConcurrent_9 : decode cX3_areConcurrent 9 = .ok (.iload_n 1, 1) := by decide +kernel
theorem dX3_areConcurrent_10 : decode cX3_areConcurrent 10 = .ok (.iload_n 2, 1) := by decide +kernel
theorem dX3_areConcurrent_11 : decode cX3_areConcurrent 11 = .ok (.if_icmp .eq 25, 3) := by decide +kernel
theorem dX3_areConcurrent_14 : decode cX3_areConcurrent 14 = .ok (.aload_n 0, 1) := by decide +kernel
theorem dX3_areConcurrent_15 : decode cX3_areConcurrent 15 = .ok (.iload_n 1, 1) := by decide +kernel
theorem dX3_areConcurrent_16 : decode cX3_areConcurrent 16 = .ok (.iload_n 2, 1) := by decide +kernel
theorem dX3_areConcurrent_17 : decode cX3_areConcurrent 17 = .ok (.invokevirtual 128, 3) := by decide +kernel
theorem dX3_areConcurrent_20 : decode cX3_areConcurrent 20 = .ok (.ifCond .ne 16, 3) := by decide +kernel
theorem dX3_areConcurrent_23 : decode cX3_areConcurrent 23 = .ok (.aload_n 0, 1) := by decide +kernel
theorem dX3_areConcurrent_24 : decode cX3_areConcurrent 24 = .ok (.iload_n 2, 1) := by decide +kernel
theorem dX3_areConcurrent_25 : decode cX3_areConcurrent 25 = .ok (.iload_n 1, 1) := by decide +kernel
theorem dX3_areConcurrent_26 : decode cX3_areConcurrent 26 = .ok (.invokevirtual 128, 3) := by decide +kernel
theorem dX3_areConcurrent_29 : decode cX3_areConcurrent 29 = .ok (.ifCond .ne 7, 3) := by decide +kernel
theorem dX3_areConcurrent_32 : decode cX3_areConcurrent 32 = .ok (.iconst 1, 1) := by decide +kernel
theorem dX3_areConcurrent_33 : decode cX3_areConcurrent 33 = .ok (.goto 4, 3) := by decide +kernel
theorem dX3_areConcurrent_36 : decode cX3_areConcurrent 36 = .ok (.iconst 0, 1) := by decide +kernel
theorem dX3_areConcurrent_37 : decode cX3_areConcurrent 37 = .ok (.ireturn, 1) := by decide +kernel
theorem dX3_delivered_0 : decode cX3_delivered 0 = .ok (.aload_n 0, 1) := by decide +kernel
theorem dX3_delivered_1 : decode cX3_delivered 1 = .ok (.iload_n 1, 1) := by decide +kernel
theorem dX3_delivered_2 : decode cX3_delivered 2 = .ok (.invokestatic 77, 3) := by decide +kernel
theorem dX3_delivered_5 : decode cX3_delivered 5 = .ok (.ifCond .eq 7, 3) := by decide +kernel
theorem dX3_delivered_8 : decode cX3_delivered 8 = .ok (.iconst 0, 1) := by decide +kernel
theorem dX3_delivered_9 : decode cX3_delivered 9 = .ok (.goto 4, 3) := by decide +kernel
theorem dX3_delivered_12 : decode cX3_delivered 12 = .ok (.iconst 1, 1) := by decide +kernel
theorem dX3_delivered_13 : decode cX3_delivered 13 = .ok (.putfield 62, 3) := by decide +kernel
theorem dX3_delivered_16 : decode cX3_delivered 16 = .ok (.aload_n 0, 1) := by decide +kernel
theorem dX3_delivered_17 : decode cX3_delivered 17 = .ok (.getfield 62, 3) := by decide +kernel
theorem dX3_delivered_20 : decode cX3_delivered 20 = .ok (.ifCond .le 7, 3) := by decide +kernel
theorem dX3_delivered_23 : decode cX3_delivered 23 = .ok (.iconst 0, 1) := by decide +kernel
theorem dX3_delivered_24 : decode cX3_delivered 24 = .ok (.goto 9, 3) := by decide +kernel
theorem dX3_delivered_27 : decode cX3_delivered 27 = .ok (.aload_n 0, 1) := by decide +kernel
theorem dX3_delivered_28 : decode cX3_delivered 28 = .ok (.getfield 41, 3) := by decide +kernel
theorem dX3_delivered_31 : decode cX3_delivered 31 = .ok (.iload_n 1, 1) := by decide +kernel
theorem dX3_delivered_32 : decode cX3_delivered 32 = .ok (.iaload, 1) := by decide +kernel
theorem dX3_delivered_33 : decode cX3_delivered 33 = .ok (.ireturn, 1) := by decide +kernel
theorem dX3_deliveredAt_0 : decode cX3_deliveredAt 0 = .ok (.aload_n 0, 1) := by decide +kernel
theorem dX3_deliveredAt_1 : decode cX3_deliveredAt 1 = .ok (.iload_n 1, 1) := by decide +kernel
theorem dX3_deliveredAt_2 : decode cX3_deliveredAt 2 = .ok (.invokestatic 77, 3) := by decide +kernel
theorem dX3_deliveredAt_5 : decode cX3_deliveredAt 5 = .ok (.ifCond .eq 23, 3) := by decide +kernel
theorem dX3_deliveredAt_8 : decode cX3_deliveredAt 8 = .ok (.iload_n 2, 1) := by decide +kernel
theorem dX3_deliveredAt_9 : decode cX3_deliveredAt 9 = .ok (.iconst 0, 1) := by decide +kernel
theorem dX3_deliveredAt_10 : decode cX3_deliveredAt 10 = .ok (.aload_n 0, 1) := by decide +kernel
theorem dX3_deliveredAt_11 : decode cX3_deliveredAt 11 = .ok (.getfield 41, 3) := by decide +kernel
theorem dX3_deliveredAt_14 : decode cX3_deliveredAt 14 = .ok (.iload_n 1, 1) := by decide +kernel
theorem dX3_deliveredAt_15 : decode cX3_deliveredAt 15 = .ok (.iaload, 1) := by decide +kernel
theorem dX3_deliveredAt_16 : decode cX3_deliveredAt 16 = .ok (.iconst 1, 1) := by decide +kernel
theorem dX3_deliveredAt_17 : decode cX3_deliveredAt 17 = .ok (.isub, 1) := by decide +kernel
theorem dX3_deliveredAt_18 : decode cX3_deliveredAt 18 = .ok (.invokestatic 66, 3) := by decide +kernel
theorem dX3_deliveredAt_21 : decode cX3_deliveredAt 21 = .ok (.ifCond .eq 7, 3) := by decide +kernel
theorem dX3_deliveredAt_24 : decode cX3_deliveredAt 24 = .ok (.iconst 0, 1) := by decide +kernel
theorem dX3_deliveredAt_25 : decode cX3_deliveredAt 25 = .ok (.goto 4, 3) := by decide +kernel
theorem dX3_deliveredAt_28 : decode cX3_deliveredAt 28 = .ok (.iconst 1, 1) := by decide +kernel
theorem dX3_deliveredAt_29 : decode cX3_deliveredAt 29 = .ok (.putfield 62, 3) := by decide +kernel
theorem dX3_deliveredAt_32 : decode cX3_deliveredAt 32 = .ok (.aload_n 0, 1) := by decide +kernel
theorem dX3_deliveredAt_33 : decode cX3_deliveredAt 33 = .ok (.getfield 62, 3) := by decide +kernel
theorem dX3_deliveredAt_36 : decode cX3_deliveredAt 36 = .ok (.ifCond .le 7, 3) := by decide +kernel
theorem dX3_deliveredAt_39 : decode cX3_deliveredAt 39 = .ok (.iconst 0, 1) := by decide +kernel
theorem dX3_deliveredAt_40 : decode cX3_deliveredAt 40 = .ok (.goto 14, 3) := by decide +kernel
theorem dX3_deliveredAt_43 : decode cX3_deliveredAt 43 = .ok (.aload_n 0, 1) := by decide +kernel
theorem dX3_deliveredAt_44 : decode cX3_deliveredAt 44 = .ok (.getfield 44, 3) := by decide +kernel
theorem dX3_deliveredAt_47 : decode cX3_deliveredAt 47 = .ok (.bipush 48, 2) := by decide +kernel
theorem dX3_deliveredAt_49 : decode cX3_deliveredAt 49 = .ok (.iload_n 1, 1) := by decide +kernel
theorem dX3_deliveredAt_50 : decode cX3_deliveredAt 50 = .ok (.imul, 1) := by decide +kernel
theorem dX3_deliveredAt_51 : decode cX3_deliveredAt 51 = .ok (.iload_n 2, 1) := by decide +kernel
theorem dX3_deliveredAt_52 : decode cX3_deliveredAt 52 = .ok (.iadd, 1) := by decide +kernel
theorem dX3_deliveredAt_53 : decode cX3_deliveredAt 53 = .ok (.iaload, 1) := by decide +kernel
theorem dX3_deliveredAt_54 : decode cX3_deliveredAt 54 = .ok (.ireturn, 1) := by decide +kernel
theorem dX3_waiting_0 : decode cX3_waiting 0 = .ok (.aload_n 0, 1) := by decide +kernel
theorem dX3_waiting_1 : decode cX3_waiting 1 = .ok (.iload_n 1, 1) := by decide +kernel
theorem dX3_waiting_2 : decode cX3_waiting 2 = .ok (.invokestatic 77, 3) := by decide +kernel
theorem dX3_waiting_5 : decode cX3_waiting 5 = .ok (.ifCond .eq 7, 3) := by decide +kernel
theorem dX3_waiting_8 : decode cX3_waiting 8 = .ok (.iconst 0, 1) := by decide +kernel
theorem dX3_waiting_9 : decode cX3_waiting 9 = .ok (.goto 4, 3) := by decide +kernel
theorem dX3_waiting_12 : decode cX3_waiting 12 = .ok (.iconst 1, 1) := by decide +kernel
theorem dX3_waiting_13 : decode cX3_waiting 13 = .ok (.putfield 62, 3) := by decide +kernel
theorem dX3_waiting_16 : decode cX3_waiting 16 = .ok (.aload_n 0, 1) := by decide +kernel
theorem dX3_waiting_17 : decode cX3_waiting 17 = .ok (.getfield 62, 3) := by decide +kernel
theorem dX3_waiting_20 : decode cX3_waiting 20 = .ok (.ifCond .le 7, 3) := by decide +kernel
theorem dX3_waiting_23 : decode cX3_waiting 23 = .ok (.iconst 0, 1) := by decide +kernel
theorem dX3_waiting_24 : decode cX3_waiting 24 = .ok (.goto 9, 3) := by decide +kernel
theorem dX3_waiting_27 : decode cX3_waiting 27 = .ok (.aload_n 0, 1) := by decide +kernel
theorem dX3_waiting_28 : decode cX3_waiting 28 = .ok (.getfield 47, 3) := by decide +kernel
theorem dX3_waiting_31 : decode cX3_waiting 31 = .ok (.iload_n 1, 1) := by decide +kernel
theorem dX3_waiting_32 : decode cX3_waiting 32 = .ok (.iaload, 1) := by decide +kernel
theorem dX3_waiting_33 : decode cX3_waiting 33 = .ok (.ireturn, 1) := by decide +kernel
theorem dX3_waitingAt_0 : decode cX3_waitingAt 0 = .ok (.aload_n 0, 1) := by decide +kernel
theorem dX3_waitingAt_1 : decode cX3_waitingAt 1 = .ok (.iload_n 1, 1) := by decide +kernel
theorem dX3_waitingAt_2 : decode cX3_waitingAt 2 = .ok (.invokestatic 77, 3) := by decide +kernel
theorem dX3_waitingAt_5 : decode cX3_waitingAt 5 = .ok (.ifCond .eq 23, 3) := by decide +kernel
theorem dX3_waitingAt_8 : decode cX3_waitingAt 8 = .ok (.iload_n 2, 1) := by decide +kernel
theorem dX3_waitingAt_9 : decode cX3_waitingAt 9 = .ok (.iconst 0, 1) := by decide +kernel
theorem dX3_waitingAt_10 : decode cX3_waitingAt 10 = .ok (.aload_n 0, 1) := by decide +kernel
theorem dX3_waitingAt_11 : decode cX3_waitingAt 11 = .ok (.getfield 47, 3) := by decide +kernel
theorem dX3_waitingAt_14 : decode cX3_waitingAt 14 = .ok (.iload_n 1, 1) := by decide +kernel
theorem dX3_waitingAt_15 : decode cX3_waitingAt 15 = .ok (.iaload, 1) := by decide +kernel
theorem dX3_waitingAt_16 : decode cX3_waitingAt 16 = .ok (.iconst 1, 1) := by decide +kernel
theorem dX3_waitingAt_17 : decode cX3_waitingAt 17 = .ok (.isub, 1) := by decide +kernel
theorem dX3_waitingAt_18 : decode cX3_waitingAt 18 = .ok (.invokestatic 66, 3) := by decide +kernel
theorem dX3_waitingAt_21 : decode cX3_waitingAt 21 = .ok (.ifCond .eq 7, 3) := by decide +kernel
theorem dX3_waitingAt_24 : decode cX3_waitingAt 24 = .ok (.iconst 0, 1) := by decide +kernel
theorem dX3_waitingAt_25 : decode cX3_waitingAt 25 = .ok (.goto 4, 3) := by decide +kernel
theorem dX3_waitingAt_28 : decode cX3_waitingAt 28 = .ok (.iconst 1, 1) := by decide +kernel
theorem dX3_waitingAt_29 : decode cX3_waitingAt 29 = .ok (.putfield 62, 3) := by decide +kernel
theorem dX3_waitingAt_32 : decode cX3_waitingAt 32 = .ok (.aload_n 0, 1) := by decide +kernel
theorem dX3_waitingAt_33 : decode cX3_waitingAt 33 = .ok (.getfield 62, 3) := by decide +kernel
theorem dX3_waitingAt_36 : decode cX3_waitingAt 36 = .ok (.ifCond .le 7, 3) := by decide +kernel
theorem dX3_waitingAt_39 : decode cX3_waitingAt 39 = .ok (.iconst 0, 1) := by decide +kernel
theorem dX3_waitingAt_40 : decode cX3_waitingAt 40 = .ok (.goto 14, 3) := by decide +kernel
theorem dX3_waitingAt_43 : decode cX3_waitingAt 43 = .ok (.aload_n 0, 1) := by decide +kernel
theorem dX3_waitingAt_44 : decode cX3_waitingAt 44 = .ok (.getfield 50, 3) := by decide +kernel
theorem dX3_waitingAt_47 : decode cX3_waitingAt 47 = .ok (.bipush 48, 2) := by decide +kernel
theorem dX3_waitingAt_49 : decode cX3_waitingAt 49 = .ok (.iload_n 1, 1) := by decide +kernel
theorem dX3_waitingAt_50 : decode cX3_waitingAt 50 = .ok (.imul, 1) := by decide +kernel
theorem dX3_waitingAt_51 : decode cX3_waitingAt 51 = .ok (.iload_n 2, 1) := by decide +kernel
theorem dX3_waitingAt_52 : decode cX3_waitingAt 52 = .ok (.iadd, 1) := by decide +kernel
theorem dX3_waitingAt_53 : decode cX3_waitingAt 53 = .ok (.iaload, 1) := by decide +kernel
theorem dX3_waitingAt_54 : decode cX3_waitingAt 54 = .ok (.ireturn, 1) := by decide +kernel
theorem dX3_needs_0 : decode cX3_needs 0 = .ok (.aload_n 0, 1) := by decide +kernel
theorem dX3_needs_1 : decode cX3_needs 1 = .ok (.aload_n 0, 1) := by decide +kernel
theorem dX3_needs_2 : decode cX3_needs 2 = .ok (.iload_n 1, 1) := by decide +kernel
theorem dX3_needs_3 : decode cX3_needs 3 = .ok (.iload_n 2, 1) := by decide +kernel
theorem dX3_needs_4 : decode cX3_needs 4 = .ok (.invokevirtual 118, 3) := by decide +kernel
theorem dX3_needs_7 : decode cX3_needs 7 = .ok (.ifCond .eq 7, 3) := by decide +kernel
theorem dX3_needs_10 : decode cX3_needs 10 = .ok (.iconst 0, 1) := by decide +kernel
theorem dX3_needs_11 : decode cX3_needs 11 = .ok (.goto 4, 3) := by decide +kernel
theorem dX3_needs_14 : decode cX3_needs 14 = .ok (.iconst 1, 1) := by decide +kernel
theorem dX3_needs_15 : decode cX3_needs 15 = .ok (.putfield 62, 3) := by decide +kernel
theorem dX3_needs_18 : decode cX3_needs 18 = .ok (.iconst 0, 1) := by decide +kernel
theorem dX3_needs_19 : decode cX3_needs 19 = .ok (.istore_n 3, 1) := by decide +kernel
theorem dX3_needs_20 : decode cX3_needs 20 = .ok (.iconst 0, 1) := by decide +kernel
theorem dX3_needs_21 : decode cX3_needs 21 = .ok (.istore 4, 2) := by decide +kernel
theorem dX3_needs_23 : decode cX3_needs 23 = .ok (.iload 4, 2) := by decide +kernel
theorem dX3_needs_25 : decode cX3_needs 25 = .ok (.aload_n 0, 1) := by decide +kernel
theorem dX3_needs_26 : decode cX3_needs 26 = .ok (.getfield 70, 3) := by decide +kernel
theorem dX3_needs_29 : decode cX3_needs 29 = .ok (.if_icmp .ge 44, 3) := by decide +kernel
theorem dX3_needs_32 : decode cX3_needs 32 = .ok (.aload_n 0, 1) := by decide +kernel
theorem dX3_needs_33 : decode cX3_needs 33 = .ok (.getfield 62, 3) := by decide +kernel
theorem dX3_needs_36 : decode cX3_needs 36 = .ok (.ifCond .ne 37, 3) := by decide +kernel
theorem dX3_needs_39 : decode cX3_needs 39 = .ok (.iload_n 3, 1) := by decide +kernel
theorem dX3_needs_40 : decode cX3_needs 40 = .ok (.aload_n 0, 1) := by decide +kernel
theorem dX3_needs_41 : decode cX3_needs 41 = .ok (.iload 4, 2) := by decide +kernel
theorem dX3_needs_43 : decode cX3_needs 43 = .ok (.iload_n 1, 1) := by decide +kernel
theorem dX3_needs_44 : decode cX3_needs 44 = .ok (.invokevirtual 128, 3) := by decide +kernel
theorem dX3_needs_47 : decode cX3_needs 47 = .ok (.ifCond .eq 17, 3) := by decide +kernel
theorem dX3_needs_50 : decode cX3_needs 50 = .ok (.aload_n 0, 1) := by decide +kernel
theorem dX3_needs_51 : decode cX3_needs 51 = .ok (.iload 4, 2) := by decide +kernel
theorem dX3_needs_53 : decode cX3_needs 53 = .ok (.iload_n 2, 1) := by decide +kernel
theorem dX3_needs_54 : decode cX3_needs 54 = .ok (.invokevirtual 131, 3) := by decide +kernel
theorem dX3_needs_57 : decode cX3_needs 57 = .ok (.ifCond .ne 7, 3) := by decide +kernel
theorem dX3_needs_60 : decode cX3_needs 60 = .ok (.iconst 1, 1) := by decide +kernel
theorem dX3_needs_61 : decode cX3_needs 61 = .ok (.goto 4, 3) := by decide +kernel
theorem dX3_needs_64 : decode cX3_needs 64 = .ok (.iconst 0, 1) := by decide +kernel
theorem dX3_needs_65 : decode cX3_needs 65 = .ok (.iadd, 1) := by decide +kernel
theorem dX3_needs_66 : decode cX3_needs 66 = .ok (.istore_n 3, 1) := by decide +kernel
theorem dX3_needs_67 : decode cX3_needs 67 = .ok (.iinc 4 1, 3) := by decide +kernel
theorem dX3_needs_70 : decode cX3_needs 70 = .ok (.goto (-47), 3) := by decide +kernel
theorem dX3_needs_73 : decode cX3_needs 73 = .ok (.iload_n 3, 1) := by decide +kernel
theorem dX3_needs_74 : decode cX3_needs 74 = .ok (.ireturn, 1) := by decide +kernel
theorem dX3_firstNeeded_0 : decode cX3_firstNeeded 0 = .ok (.aload_n 0, 1) := by decide +kernel
theorem dX3_firstNeeded_1 : decode cX3_firstNeeded 1 = .ok (.aload_n 0, 1) := by decide +kernel
theorem dX3_firstNeeded_2 : decode cX3_firstNeeded 2 = .ok (.iload_n 1, 1) := by decide +kernel
theorem dX3_firstNeeded_3 : decode cX3_firstNeeded 3 = .ok (.iload_n 2, 1) := by decide +kernel
theorem dX3_firstNeeded_4 : decode cX3_firstNeeded 4 = .ok (.invokevirtual 118, 3) := by decide +kernel
theorem dX3_firstNeeded_7 : decode cX3_firstNeeded 7 = .ok (.ifCond .eq 7, 3) := by decide +kernel
theorem dX3_firstNeeded_10 : decode cX3_firstNeeded 10 = .ok (.iconst 0, 1) := by decide +kernel
theorem dX3_firstNeeded_11 : decode cX3_firstNeeded 11 = .ok (.goto 4, 3) := by decide +kernel
theorem dX3_firstNeeded_14 : decode cX3_firstNeeded 14 = .ok (.iconst 1, 1) := by decide +kernel
theorem dX3_firstNeeded_15 : decode cX3_firstNeeded 15 = .ok (.putfield 62, 3) := by decide +kernel
theorem dX3_firstNeeded_18 : decode cX3_firstNeeded 18 = .ok (.aload_n 0, 1) := by decide +kernel
theorem dX3_firstNeeded_19 : decode cX3_firstNeeded 19 = .ok (.getfield 62, 3) := by decide +kernel
theorem dX3_firstNeeded_22 : decode cX3_firstNeeded 22 = .ok (.ifCond .le 5, 3) := by decide +kernel
theorem dX3_firstNeeded_25 : decode cX3_firstNeeded 25 = .ok (.iconst 0, 1) := by decide +kernel
theorem dX3_firstNeeded_26 : decode cX3_firstNeeded 26 = .ok (.ireturn, 1) := by decide +kernel
theorem dX3_firstNeeded_27 : decode cX3_firstNeeded 27 = .ok (.iconst (-1), 1) := by decide +kernel
theorem dX3_firstNeeded_28 : decode cX3_firstNeeded 28 = .ok (.istore_n 3, 1) := by decide +kernel
theorem dX3_firstNeeded_29 : decode cX3_firstNeeded 29 = .ok (.aload_n 0, 1) := by decide +kernel
theorem dX3_firstNeeded_30 : decode cX3_firstNeeded 30 = .ok (.getfield 70, 3) := by decide +kernel
theorem dX3_firstNeeded_33 : decode cX3_firstNeeded 33 = .ok (.iconst 1, 1) := by decide +kernel
theorem dX3_firstNeeded_34 : decode cX3_firstNeeded 34 = .ok (.isub, 1) := by decide +kernel
theorem dX3_firstNeeded_35 : decode cX3_firstNeeded 35 = .ok (.istore 4, 2) := by decide +kernel
theorem dX3_firstNeeded_37 : decode cX3_firstNeeded 37 = .ok (.iload 4, 2) := by decide +kernel
theorem dX3_firstNeeded_39 : decode cX3_firstNeeded 39 = .ok (.ifCond .lt 36, 3) := by decide +kernel
theorem dX3_firstNeeded_42 : decode cX3_firstNeeded 42 = .ok (.aload_n 0, 1) := by decide +kernel
theorem dX3_firstNeeded_43 : decode cX3_firstNeeded 43 = .ok (.iload 4, 2) := by decide +kernel
theorem dX3_firstNeeded_45 : decode cX3_firstNeeded 45 = .ok (.iload_n 1, 1) := by decide +kernel
theorem dX3_firstNeeded_46 : decode cX3_firstNeeded 46 = .ok (.invokevirtual 128, 3) := by decide +kernel
theorem dX3_firstNeeded_49 : decode cX3_firstNeeded 49 = .ok (.ifCond .eq 18, 3) := by decide +kernel
theorem dX3_firstNeeded_52 : decode cX3_firstNeeded 52 = .ok (.aload_n 0, 1) := by decide +kernel
theorem dX3_firstNeeded_53 : decode cX3_firstNeeded 53 = .ok (.iload 4, 2) := by decide +kernel
theorem dX3_firstNeeded_55 : decode cX3_firstNeeded 55 = .ok (.iload_n 2, 1) := by decide +kernel
theorem dX3_firstNeeded_56 : decode cX3_firstNeeded 56 = .ok (.invokevirtual 131, 3) := by decide +kernel
theorem dX3_firstNeeded_59 : decode cX3_firstNeeded 59 = .ok (.ifCond .ne 8, 3) := by decide +kernel
theorem dX3_firstNeeded_62 : decode cX3_firstNeeded 62 = .ok (.iload 4, 2) := by decide +kernel
theorem dX3_firstNeeded_64 : decode cX3_firstNeeded 64 = .ok (.goto 4, 3) := by decide +kernel
theorem dX3_firstNeeded_67 : decode cX3_firstNeeded 67 = .ok (.iload_n 3, 1) := by decide +kernel
theorem dX3_firstNeeded_68 : decode cX3_firstNeeded 68 = .ok (.istore_n 3, 1) := by decide +kernel
theorem dX3_firstNeeded_69 : decode cX3_firstNeeded 69 = .ok (.iinc 4 (-1), 3) := by decide +kernel
theorem dX3_firstNeeded_72 : decode cX3_firstNeeded 72 = .ok (.goto (-35), 3) := by decide +kernel
theorem dX3_firstNeeded_75 : decode cX3_firstNeeded 75 = .ok (.iload_n 3, 1) := by decide +kernel
theorem dX3_firstNeeded_76 : decode cX3_firstNeeded 76 = .ok (.ireturn, 1) := by decide +kernel
theorem dX3_holder_0 : decode cX3_holder 0 = .ok (.aload_n 0, 1) := by decide +kernel
theorem dX3_holder_1 : decode cX3_holder 1 = .ok (.iconst 0, 1) := by decide +kernel
theorem dX3_holder_2 : decode cX3_holder 2 = .ok (.putfield 62, 3) := by decide +kernel
theorem dX3_holder_5 : decode cX3_holder 5 = .ok (.aload_n 0, 1) := by decide +kernel
theorem dX3_holder_6 : decode cX3_holder 6 = .ok (.getfield 83, 3) := by decide +kernel
theorem dX3_holder_9 : decode cX3_holder 9 = .ok (.ireturn, 1) := by decide +kernel
theorem dX3_holds_0 : decode cX3_holds 0 = .ok (.aload_n 0, 1) := by decide +kernel
theorem dX3_holds_1 : decode cX3_holds 1 = .ok (.getfield 56, 3) := by decide +kernel
theorem dX3_holds_4 : decode cX3_holds 4 = .ok (.aload_n 0, 1) := by decide +kernel
theorem dX3_holds_5 : decode cX3_holds 5 = .ok (.getfield 83, 3) := by decide +kernel
theorem dX3_holds_8 : decode cX3_holds 8 = .ok (.aload_n 0, 1) := by decide +kernel
theorem dX3_holds_9 : decode cX3_holds 9 = .ok (.getfield 80, 3) := by decide +kernel
theorem dX3_holds_12 : decode cX3_holds 12 = .ok (.iastore, 1) := by decide +kernel
theorem dX3_holds_13 : decode cX3_holds 13 = .ok (.aload_n 0, 1) := by decide +kernel
theorem dX3_holds_14 : decode cX3_holds 14 = .ok (.iload_n 1, 1) := by decide +kernel
theorem dX3_holds_15 : decode cX3_holds 15 = .ok (.putfield 83, 3) := by decide +kernel
theorem dX3_holds_18 : decode cX3_holds 18 = .ok (.iconst 0, 1) := by decide +kernel
theorem dX3_holds_19 : decode cX3_holds 19 = .ok (.istore_n 2, 1) := by decide +kernel
theorem dX3_holds_20 : decode cX3_holds 20 = .ok (.iconst 0, 1) := by decide +kernel
theorem dX3_holds_21 : decode cX3_holds 21 = .ok (.istore_n 3, 1) := by decide +kernel
theorem dX3_holds_22 : decode cX3_holds 22 = .ok (.iload_n 3, 1) := by decide +kernel
theorem dX3_holds_23 : decode cX3_holds 23 = .ok (.aload_n 0, 1) := by decide +kernel
theorem dX3_holds_24 : decode cX3_holds 24 = .ok (.getfield 41, 3) := by decide +kernel
theorem dX3_holds_27 : decode cX3_holds 27 = .ok (.iload_n 1, 1) := by decide +kernel
theorem dX3_holds_28 : decode cX3_holds 28 = .ok (.iaload, 1) := by decide +kernel
theorem dX3_holds_29 : decode cX3_holds 29 = .ok (.if_icmp .ge 52, 3) := by decide +kernel
theorem dX3_holds_32 : decode cX3_holds 32 = .ok (.aload_n 0, 1) := by decide +kernel
theorem dX3_holds_33 : decode cX3_holds 33 = .ok (.getfield 44, 3) := by decide +kernel
theorem dX3_holds_36 : decode cX3_holds 36 = .ok (.bipush 48, 2) := by decide +kernel
theorem dX3_holds_38 : decode cX3_holds 38 = .ok (.iload_n 1, 1) := by decide +kernel
theorem dX3_holds_39 : decode cX3_holds 39 = .ok (.imul, 1) := by decide +kernel
theorem dX3_holds_40 : decode cX3_holds 40 = .ok (.iload_n 3, 1) := by decide +kernel
theorem dX3_holds_41 : decode cX3_holds 41 = .ok (.iadd, 1) := by decide +kernel
theorem dX3_holds_42 : decode cX3_holds 42 = .ok (.iaload, 1) := by decide +kernel
theorem dX3_holds_43 : decode cX3_holds 43 = .ok (.istore 4, 2) := by decide +kernel
theorem dX3_holds_45 : decode cX3_holds 45 = .ok (.aload_n 0, 1) := by decide +kernel
theorem dX3_holds_46 : decode cX3_holds 46 = .ok (.getfield 26, 3) := by decide +kernel
theorem dX3_holds_49 : decode cX3_holds 49 = .ok (.iload 4, 2) := by decide +kernel
theorem dX3_holds_51 : decode cX3_holds 51 = .ok (.iaload, 1) := by decide +kernel
theorem dX3_holds_52 : decode cX3_holds 52 = .ok (.iconst (-1), 1) := by decide +kernel
theorem dX3_holds_53 : decode cX3_holds 53 = .ok (.if_icmp .ne 22, 3) := by decide +kernel
theorem dX3_holds_56 : decode cX3_holds 56 = .ok (.aload_n 0, 1) := by decide +kernel
theorem dX3_holds_57 : decode cX3_holds 57 = .ok (.getfield 22, 3) := by decide +kernel
theorem dX3_holds_60 : decode cX3_holds 60 = .ok (.iload 4, 2) := by decide +kernel
theorem dX3_holds_62 : decode cX3_holds 62 = .ok (.baload, 1) := by decide +kernel
theorem dX3_holds_63 : decode cX3_holds 63 = .ok (.ifCond .ne 12, 3) := by decide +kernel
theorem dX3_holds_66 : decode cX3_holds 66 = .ok (.aload_n 0, 1) := by decide +kernel
theorem dX3_holds_67 : decode cX3_holds 67 = .ok (.iload 4, 2) := by decide +kernel
theorem dX3_holds_69 : decode cX3_holds 69 = .ok (.invokevirtual 86, 3) := by decide +kernel
theorem dX3_holds_72 : decode cX3_holds 72 = .ok (.iinc 2 1, 3) := by decide +kernel
theorem dX3_holds_75 : decode cX3_holds 75 = .ok (.iinc 3 1, 3) := by decide +kernel
theorem dX3_holds_78 : decode cX3_holds 78 = .ok (.goto (-56), 3) := by decide +kernel
theorem dX3_holds_81 : decode cX3_holds 81 = .ok (.iload_n 2, 1) := by decide +kernel
theorem dX3_holds_82 : decode cX3_holds 82 = .ok (.ireturn, 1) := by decide +kernel
theorem dX3_hasAll_0 : decode cX3_hasAll 0 = .ok (.iconst 1, 1) := by decide +kernel
theorem dX3_hasAll_1 : decode cX3_hasAll 1 = .ok (.istore_n 2, 1) := by decide +kernel
theorem dX3_hasAll_2 : decode cX3_hasAll 2 = .ok (.iconst 0, 1) := by decide +kernel
theorem dX3_hasAll_3 : decode cX3_hasAll 3 = .ok (.istore_n 3, 1) := by decide +kernel
theorem dX3_hasAll_4 : decode cX3_hasAll 4 = .ok (.iload_n 3, 1) := by decide +kernel
theorem dX3_hasAll_5 : decode cX3_hasAll 5 = .ok (.aload_n 0, 1) := by decide +kernel
theorem dX3_hasAll_6 : decode cX3_hasAll 6 = .ok (.getfield 70, 3) := by decide +kernel
theorem dX3_hasAll_9 : decode cX3_hasAll 9 = .ok (.if_icmp .ge 38, 3) := by decide +kernel
theorem dX3_hasAll_12 : decode cX3_hasAll 12 = .ok (.iload_n 2, 1) := by decide +kernel
theorem dX3_hasAll_13 : decode cX3_hasAll 13 = .ok (.ifCond .eq 26, 3) := by decide +kernel
theorem dX3_hasAll_16 : decode cX3_hasAll 16 = .ok (.aload_n 0, 1) := by decide +kernel
theorem dX3_hasAll_17 : decode cX3_hasAll 17 = .ok (.getfield 26, 3) := by decide +kernel
theorem dX3_hasAll_20 : decode cX3_hasAll 20 = .ok (.iload_n 3, 1) := by decide +kernel
theorem dX3_hasAll_21 : decode cX3_hasAll 21 = .ok (.iaload, 1) := by decide +kernel
theorem dX3_hasAll_22 : decode cX3_hasAll 22 = .ok (.iconst (-1), 1) := by decide +kernel
theorem dX3_hasAll_23 : decode cX3_hasAll 23 = .ok (.if_icmp .eq 12, 3) := by decide +kernel
theorem dX3_hasAll_26 : decode cX3_hasAll 26 = .ok (.aload_n 0, 1) := by decide +kernel
theorem dX3_hasAll_27 : decode cX3_hasAll 27 = .ok (.iload_n 3, 1) := by decide +kernel
theorem dX3_hasAll_28 : decode cX3_hasAll 28 = .ok (.iload_n 1, 1) := by decide +kernel
theorem dX3_hasAll_29 : decode cX3_hasAll 29 = .ok (.invokevirtual 131, 3) := by decide +kernel
theorem dX3_hasAll_32 : decode cX3_hasAll 32 = .ok (.ifCond .eq 7, 3) := by decide +kernel
theorem dX3_hasAll_35 : decode cX3_hasAll 35 = .ok (.iconst 1, 1) := by decide +kernel
theorem dX3_hasAll_36 : decode cX3_hasAll 36 = .ok (.goto 4, 3) := by decide +kernel
theorem dX3_hasAll_39 : decode cX3_hasAll 39 = .ok (.iconst 0, 1) := by decide +kernel
theorem dX3_hasAll_40 : decode cX3_hasAll 40 = .ok (.istore_n 2, 1) := by decide +kernel
theorem dX3_hasAll_41 : decode cX3_hasAll 41 = .ok (.iinc 3 1, 3) := by decide +kernel
theorem dX3_hasAll_44 : decode cX3_hasAll 44 = .ok (.goto (-40), 3) := by decide +kernel
theorem dX3_hasAll_47 : decode cX3_hasAll 47 = .ok (.iload_n 2, 1) := by decide +kernel
theorem dX3_hasAll_48 : decode cX3_hasAll 48 = .ok (.ireturn, 1) := by decide +kernel
theorem dX3_passToken_0 : decode cX3_passToken 0 = .ok (.aload_n 0, 1) := by decide +kernel
theorem dX3_passToken_1 : decode cX3_passToken 1 = .ok (.iload_n 1, 1) := by decide +kernel
theorem dX3_passToken_2 : decode cX3_passToken 2 = .ok (.invokestatic 77, 3) := by decide +kernel
theorem dX3_passToken_5 : decode cX3_passToken 5 = .ok (.ifCond .ne 7, 3) := by decide +kernel
theorem dX3_passToken_8 : decode cX3_passToken 8 = .ok (.iconst 1, 1) := by decide +kernel
theorem dX3_passToken_9 : decode cX3_passToken 9 = .ok (.goto 32, 3) := by decide +kernel
theorem dX3_passToken_12 : decode cX3_passToken 12 = .ok (.aload_n 0, 1) := by decide +kernel
theorem dX3_passToken_13 : decode cX3_passToken 13 = .ok (.getfield 32, 3) := by decide +kernel
theorem dX3_passToken_16 : decode cX3_passToken 16 = .ok (.iload_n 1, 1) := by decide +kernel
theorem dX3_passToken_17 : decode cX3_passToken 17 = .ok (.baload, 1) := by decide +kernel
theorem dX3_passToken_18 : decode cX3_passToken 18 = .ok (.ifCond .ne 18, 3) := by decide +kernel
theorem dX3_passToken_21 : decode cX3_passToken 21 = .ok (.aload_n 0, 1) := by decide +kernel
theorem dX3_passToken_22 : decode cX3_passToken 22 = .ok (.invokevirtual 111, 3) := by decide +kernel
theorem dX3_passToken_25 : decode cX3_passToken 25 = .ok (.ifCond .ne 11, 3) := by decide +kernel
theorem dX3_passToken_28 : decode cX3_passToken 28 = .ok (.aload_n 0, 1) := by decide +kernel
theorem dX3_passToken_29 : decode cX3_passToken 29 = .ok (.iload_n 1, 1) := by decide +kernel
theorem dX3_passToken_30 : decode cX3_passToken 30 = .ok (.invokevirtual 134, 3) := by decide +kernel
theorem dX3_passToken_33 : decode cX3_passToken 33 = .ok (.ifCond .ne 7, 3) := by decide +kernel
theorem dX3_passToken_36 : decode cX3_passToken 36 = .ok (.iconst 2, 1) := by decide +kernel
theorem dX3_passToken_37 : decode cX3_passToken 37 = .ok (.goto 4, 3) := by decide +kernel
theorem dX3_passToken_40 : decode cX3_passToken 40 = .ok (.iconst 0, 1) := by decide +kernel
theorem dX3_passToken_41 : decode cX3_passToken 41 = .ok (.putfield 62, 3) := by decide +kernel
theorem dX3_passToken_44 : decode cX3_passToken 44 = .ok (.aload_n 0, 1) := by decide +kernel
theorem dX3_passToken_45 : decode cX3_passToken 45 = .ok (.getfield 62, 3) := by decide +kernel
theorem dX3_passToken_48 : decode cX3_passToken 48 = .ok (.ifCond .gt 11, 3) := by decide +kernel
theorem dX3_passToken_51 : decode cX3_passToken 51 = .ok (.iload_n 1, 1) := by decide +kernel
theorem dX3_passToken_52 : decode cX3_passToken 52 = .ok (.aload_n 0, 1) := by decide +kernel
theorem dX3_passToken_53 : decode cX3_passToken 53 = .ok (.getfield 83, 3) := by decide +kernel
theorem dX3_passToken_56 : decode cX3_passToken 56 = .ok (.if_icmp .ne 7, 3) := by decide +kernel
theorem dX3_passToken_59 : decode cX3_passToken 59 = .ok (.iconst 0, 1) := by decide +kernel
theorem dX3_passToken_60 : decode cX3_passToken 60 = .ok (.goto 8, 3) := by decide +kernel
theorem dX3_passToken_63 : decode cX3_passToken 63 = .ok (.aload_n 0, 1) := by decide +kernel
theorem dX3_passToken_64 : decode cX3_passToken 64 = .ok (.iload_n 1, 1) := by decide +kernel
theorem dX3_passToken_65 : decode cX3_passToken 65 = .ok (.invokevirtual 137, 3) := by decide +kernel
theorem dX3_passToken_68 : decode cX3_passToken 68 = .ok (.ireturn, 1) := by decide +kernel
theorem dX3_knows_0 : decode cX3_knows 0 = .ok (.iload_n 1, 1) := by decide +kernel
theorem dX3_knows_1 : decode cX3_knows 1 = .ok (.aload_n 0, 1) := by decide +kernel
theorem dX3_knows_2 : decode cX3_knows 2 = .ok (.getfield 83, 3) := by decide +kernel
theorem dX3_knows_5 : decode cX3_knows 5 = .ok (.if_icmp .ne 19, 3) := by decide +kernel
theorem dX3_knows_8 : decode cX3_knows 8 = .ok (.aload_n 0, 1) := by decide +kernel
theorem dX3_knows_9 : decode cX3_knows 9 = .ok (.getfield 32, 3) := by decide +kernel
theorem dX3_knows_12 : decode cX3_knows 12 = .ok (.iload_n 1, 1) := by decide +kernel
theorem dX3_knows_13 : decode cX3_knows 13 = .ok (.baload, 1) := by decide +kernel
theorem dX3_knows_14 : decode cX3_knows 14 = .ok (.ifCond .ne 10, 3) := by decide +kernel
theorem dX3_knows_17 : decode cX3_knows 17 = .ok (.aload_n 0, 1) := by decide +kernel
theorem dX3_knows_18 : decode cX3_knows 18 = .ok (.getfield 80, 3) := by decide +kernel
theorem dX3_knows_21 : decode cX3_knows 21 = .ok (.goto 9, 3) := by decide +kernel
theorem dX3_knows_24 : decode cX3_knows 24 = .ok (.aload_n 0, 1) := by decide +kernel
theorem dX3_knows_25 : decode cX3_knows 25 = .ok (.getfield 56, 3) := by decide +kernel
theorem dX3_knows_28 : decode cX3_knows 28 = .ok (.iload_n 1, 1) := by decide +kernel
theorem dX3_knows_29 : decode cX3_knows 29 = .ok (.iaload, 1) := by decide +kernel
theorem dX3_knows_30 : decode cX3_knows 30 = .ok (.ireturn, 1) := by decide +kernel
theorem dX3_tell_0 : decode cX3_tell 0 = .ok (.aload_n 0, 1) := by decide +kernel
theorem dX3_tell_1 : decode cX3_tell 1 = .ok (.iload_n 1, 1) := by decide +kernel
theorem dX3_tell_2 : decode cX3_tell 2 = .ok (.invokestatic 77, 3) := by decide +kernel
theorem dX3_tell_5 : decode cX3_tell 5 = .ok (.ifCond .ne 7, 3) := by decide +kernel
theorem dX3_tell_8 : decode cX3_tell 8 = .ok (.iconst 1, 1) := by decide +kernel
theorem dX3_tell_9 : decode cX3_tell 9 = .ok (.goto 17, 3) := by decide +kernel
theorem dX3_tell_12 : decode cX3_tell 12 = .ok (.aload_n 0, 1) := by decide +kernel
theorem dX3_tell_13 : decode cX3_tell 13 = .ok (.getfield 32, 3) := by decide +kernel
theorem dX3_tell_16 : decode cX3_tell 16 = .ok (.iload_n 1, 1) := by decide +kernel
theorem dX3_tell_17 : decode cX3_tell 17 = .ok (.baload, 1) := by decide +kernel
theorem dX3_tell_18 : decode cX3_tell 18 = .ok (.ifCond .eq 7, 3) := by decide +kernel
theorem dX3_tell_21 : decode cX3_tell 21 = .ok (.iconst 2, 1) := by decide +kernel
theorem dX3_tell_22 : decode cX3_tell 22 = .ok (.goto 4, 3) := by decide +kernel
theorem dX3_tell_25 : decode cX3_tell 25 = .ok (.iconst 0, 1) := by decide +kernel
theorem dX3_tell_26 : decode cX3_tell 26 = .ok (.putfield 62, 3) := by decide +kernel
theorem dX3_tell_29 : decode cX3_tell 29 = .ok (.aload_n 0, 1) := by decide +kernel
theorem dX3_tell_30 : decode cX3_tell 30 = .ok (.getfield 62, 3) := by decide +kernel
theorem dX3_tell_33 : decode cX3_tell 33 = .ok (.ifCond .le 5, 3) := by decide +kernel
theorem dX3_tell_36 : decode cX3_tell 36 = .ok (.iconst 0, 1) := by decide +kernel
theorem dX3_tell_37 : decode cX3_tell 37 = .ok (.ireturn, 1) := by decide +kernel
theorem dX3_tell_38 : decode cX3_tell 38 = .ok (.aload_n 0, 1) := by decide +kernel
theorem dX3_tell_39 : decode cX3_tell 39 = .ok (.getfield 80, 3) := by decide +kernel
theorem dX3_tell_42 : decode cX3_tell 42 = .ok (.aload_n 0, 1) := by decide +kernel
theorem dX3_tell_43 : decode cX3_tell 43 = .ok (.iload_n 1, 1) := by decide +kernel
theorem dX3_tell_44 : decode cX3_tell 44 = .ok (.invokevirtual 140, 3) := by decide +kernel
theorem dX3_tell_47 : decode cX3_tell 47 = .ok (.isub, 1) := by decide +kernel
theorem dX3_tell_48 : decode cX3_tell 48 = .ok (.istore_n 2, 1) := by decide +kernel
theorem dX3_tell_49 : decode cX3_tell 49 = .ok (.aload_n 0, 1) := by decide +kernel
theorem dX3_tell_50 : decode cX3_tell 50 = .ok (.getfield 56, 3) := by decide +kernel
theorem dX3_tell_53 : decode cX3_tell 53 = .ok (.iload_n 1, 1) := by decide +kernel
theorem dX3_tell_54 : decode cX3_tell 54 = .ok (.aload_n 0, 1) := by decide +kernel
theorem dX3_tell_55 : decode cX3_tell 55 = .ok (.getfield 80, 3) := by decide +kernel
theorem dX3_tell_58 : decode cX3_tell 58 = .ok (.iastore, 1) := by decide +kernel
theorem dX3_tell_59 : decode cX3_tell 59 = .ok (.iload_n 2, 1) := by decide +kernel
theorem dX3_tell_60 : decode cX3_tell 60 = .ok (.ireturn, 1) := by decide +kernel
theorem dX3_numbered_0 : decode cX3_numbered 0 = .ok (.aload_n 0, 1) := by decide +kernel
theorem dX3_numbered_1 : decode cX3_numbered 1 = .ok (.iconst 0, 1) := by decide +kernel
theorem dX3_numbered_2 : decode cX3_numbered 2 = .ok (.putfield 62, 3) := by decide +kernel
theorem dX3_numbered_5 : decode cX3_numbered 5 = .ok (.aload_n 0, 1) := by decide +kernel
theorem dX3_numbered_6 : decode cX3_numbered 6 = .ok (.getfield 80, 3) := by decide +kernel
theorem dX3_numbered_9 : decode cX3_numbered 9 = .ok (.ireturn, 1) := by decide +kernel
theorem dX3_numberOf_0 : decode cX3_numberOf 0 = .ok (.aload_n 0, 1) := by decide +kernel
theorem dX3_numberOf_1 : decode cX3_numberOf 1 = .ok (.aload_n 0, 1) := by decide +kernel
theorem dX3_numberOf_2 : decode cX3_numberOf 2 = .ok (.iload_n 1, 1) := by decide +kernel
theorem dX3_numberOf_3 : decode cX3_numberOf 3 = .ok (.invokevirtual 73, 3) := by decide +kernel
theorem dX3_numberOf_6 : decode cX3_numberOf 6 = .ok (.ifCond .eq 7, 3) := by decide +kernel
theorem dX3_numberOf_9 : decode cX3_numberOf 9 = .ok (.iconst 0, 1) := by decide +kernel
theorem dX3_numberOf_10 : decode cX3_numberOf 10 = .ok (.goto 4, 3) := by decide +kernel
theorem dX3_numberOf_13 : decode cX3_numberOf 13 = .ok (.iconst 1, 1) := by decide +kernel
theorem dX3_numberOf_14 : decode cX3_numberOf 14 = .ok (.putfield 62, 3) := by decide +kernel
theorem dX3_numberOf_17 : decode cX3_numberOf 17 = .ok (.aload_n 0, 1) := by decide +kernel
theorem dX3_numberOf_18 : decode cX3_numberOf 18 = .ok (.getfield 62, 3) := by decide +kernel
theorem dX3_numberOf_21 : decode cX3_numberOf 21 = .ok (.ifCond .le 7, 3) := by decide +kernel
theorem dX3_numberOf_24 : decode cX3_numberOf 24 = .ok (.iconst 0, 1) := by decide +kernel
theorem dX3_numberOf_25 : decode cX3_numberOf 25 = .ok (.goto 9, 3) := by decide +kernel
theorem dX3_numberOf_28 : decode cX3_numberOf 28 = .ok (.aload_n 0, 1) := by decide +kernel
theorem dX3_numberOf_29 : decode cX3_numberOf 29 = .ok (.getfield 26, 3) := by decide +kernel
theorem dX3_numberOf_32 : decode cX3_numberOf 32 = .ok (.iload_n 1, 1) := by decide +kernel
theorem dX3_numberOf_33 : decode cX3_numberOf 33 = .ok (.iaload, 1) := by decide +kernel
theorem dX3_numberOf_34 : decode cX3_numberOf 34 = .ok (.ireturn, 1) := by decide +kernel
theorem dX3_withNumber_0 : decode cX3_withNumber 0 = .ok (.iconst (-1), 1) := by decide +kernel
theorem dX3_withNumber_1 : decode cX3_withNumber 1 = .ok (.istore_n 2, 1) := by decide +kernel
theorem dX3_withNumber_2 : decode cX3_withNumber 2 = .ok (.iconst 0, 1) := by decide +kernel
theorem dX3_withNumber_3 : decode cX3_withNumber 3 = .ok (.istore_n 3, 1) := by decide +kernel
theorem dX3_withNumber_4 : decode cX3_withNumber 4 = .ok (.iload_n 3, 1) := by decide +kernel
theorem dX3_withNumber_5 : decode cX3_withNumber 5 = .ok (.aload_n 0, 1) := by decide +kernel
theorem dX3_withNumber_6 : decode cX3_withNumber 6 = .ok (.getfield 70, 3) := by decide +kernel
theorem dX3_withNumber_9 : decode cX3_withNumber 9 = .ok (.if_icmp .ge 25, 3) := by decide +kernel
theorem dX3_withNumber_12 : decode cX3_withNumber 12 = .ok (.aload_n 0, 1) := by decide +kernel
theorem dX3_withNumber_13 : decode cX3_withNumber 13 = .ok (.getfield 26, 3) := by decide +kernel
theorem dX3_withNumber_16 : decode cX3_withNumber 16 = .ok (.iload_n 3, 1) := by decide +kernel
theorem dX3_withNumber_17 : decode cX3_withNumber 17 = .ok (.iaload, 1) := by decide +kernel
theorem dX3_withNumber_18 : decode cX3_withNumber 18 = .ok (.iload_n 1, 1) := by decide +kernel
theorem dX3_withNumber_19 : decode cX3_withNumber 19 = .ok (.if_icmp .ne 7, 3) := by decide +kernel
theorem dX3_withNumber_22 : decode cX3_withNumber 22 = .ok (.iload_n 3, 1) := by decide +kernel
theorem dX3_withNumber_23 : decode cX3_withNumber 23 = .ok (.goto 4, 3) := by decide +kernel
theorem dX3_withNumber_26 : decode cX3_withNumber 26 = .ok (.iload_n 2, 1) := by decide +kernel
theorem dX3_withNumber_27 : decode cX3_withNumber 27 = .ok (.istore_n 2, 1) := by decide +kernel
theorem dX3_withNumber_28 : decode cX3_withNumber 28 = .ok (.iinc 3 1, 3) := by decide +kernel
theorem dX3_withNumber_31 : decode cX3_withNumber 31 = .ok (.goto (-27), 3) := by decide +kernel
theorem dX3_withNumber_34 : decode cX3_withNumber 34 = .ok (.iload_n 2, 1) := by decide +kernel
theorem dX3_withNumber_35 : decode cX3_withNumber 35 = .ok (.ireturn, 1) := by decide +kernel
theorem dX3_orders_0 : decode cX3_orders 0 = .ok (.iconst 0, 1) := by decide +kernel
theorem dX3_orders_1 : decode cX3_orders 1 = .ok (.istore_n 2, 1) := by decide +kernel
theorem dX3_orders_2 : decode cX3_orders 2 = .ok (.iload_n 2, 1) := by decide +kernel
theorem dX3_orders_3 : decode cX3_orders 3 = .ok (.aload_n 0, 1) := by decide +kernel
theorem dX3_orders_4 : decode cX3_orders 4 = .ok (.iload_n 1, 1) := by decide +kernel
theorem dX3_orders_5 : decode cX3_orders 5 = .ok (.invokevirtual 140, 3) := by decide +kernel
theorem dX3_orders_8 : decode cX3_orders 8 = .ok (.if_icmp .ge 22, 3) := by decide +kernel
theorem dX3_orders_11 : decode cX3_orders 11 = .ok (.aload_n 0, 1) := by decide +kernel
theorem dX3_orders_12 : decode cX3_orders 12 = .ok (.aload_n 0, 1) := by decide +kernel
theorem dX3_orders_13 : decode cX3_orders 13 = .ok (.iload_n 2, 1) := by decide +kernel
theorem dX3_orders_14 : decode cX3_orders 14 = .ok (.invokevirtual 143, 3) := by decide +kernel
theorem dX3_orders_17 : decode cX3_orders 17 = .ok (.iload_n 1, 1) := by decide +kernel
theorem dX3_orders_18 : decode cX3_orders 18 = .ok (.invokevirtual 131, 3) := by decide +kernel
theorem dX3_orders_21 : decode cX3_orders 21 = .ok (.ifCond .eq 9, 3) := by decide +kernel
theorem dX3_orders_24 : decode cX3_orders 24 = .ok (.iinc 2 1, 3) := by decide +kernel
theorem dX3_orders_27 : decode cX3_orders 27 = .ok (.goto (-25), 3) := by decide +kernel
theorem dX3_orders_30 : decode cX3_orders 30 = .ok (.iload_n 2, 1) := by decide +kernel
theorem dX3_orders_31 : decode cX3_orders 31 = .ok (.ireturn, 1) := by decide +kernel
theorem dX3_ordered_0 : decode cX3_ordered 0 = .ok (.aload_n 0, 1) := by decide +kernel
theorem dX3_ordered_1 : decode cX3_ordered 1 = .ok (.iload_n 1, 1) := by decide +kernel
theorem dX3_ordered_2 : decode cX3_ordered 2 = .ok (.invokestatic 77, 3) := by decide +kernel
theorem dX3_ordered_5 : decode cX3_ordered 5 = .ok (.ifCond .eq 7, 3) := by decide +kernel
theorem dX3_ordered_8 : decode cX3_ordered 8 = .ok (.iconst 0, 1) := by decide +kernel
theorem dX3_ordered_9 : decode cX3_ordered 9 = .ok (.goto 4, 3) := by decide +kernel
theorem dX3_ordered_12 : decode cX3_ordered 12 = .ok (.iconst 1, 1) := by decide +kernel
theorem dX3_ordered_13 : decode cX3_ordered 13 = .ok (.putfield 62, 3) := by decide +kernel
theorem dX3_ordered_16 : decode cX3_ordered 16 = .ok (.aload_n 0, 1) := by decide +kernel
theorem dX3_ordered_17 : decode cX3_ordered 17 = .ok (.getfield 62, 3) := by decide +kernel
theorem dX3_ordered_20 : decode cX3_ordered 20 = .ok (.ifCond .le 7, 3) := by decide +kernel
theorem dX3_ordered_23 : decode cX3_ordered 23 = .ok (.iconst 0, 1) := by decide +kernel
theorem dX3_ordered_24 : decode cX3_ordered 24 = .ok (.goto 26, 3) := by decide +kernel
theorem dX3_ordered_27 : decode cX3_ordered 27 = .ok (.aload_n 0, 1) := by decide +kernel
theorem dX3_ordered_28 : decode cX3_ordered 28 = .ok (.getfield 32, 3) := by decide +kernel
theorem dX3_ordered_31 : decode cX3_ordered 31 = .ok (.iload_n 1, 1) := by decide +kernel
theorem dX3_ordered_32 : decode cX3_ordered 32 = .ok (.baload, 1) := by decide +kernel
theorem dX3_ordered_33 : decode cX3_ordered 33 = .ok (.ifCond .eq 12, 3) := by decide +kernel
theorem dX3_ordered_36 : decode cX3_ordered 36 = .ok (.aload_n 0, 1) := by decide +kernel
theorem dX3_ordered_37 : decode cX3_ordered 37 = .ok (.getfield 59, 3) := by decide +kernel
theorem dX3_ordered_40 : decode cX3_ordered 40 = .ok (.iload_n 1, 1) := by decide +kernel
theorem dX3_ordered_41 : decode cX3_ordered 41 = .ok (.iaload, 1) := by decide +kernel
theorem dX3_ordered_42 : decode cX3_ordered 42 = .ok (.goto 8, 3) := by decide +kernel
theorem dX3_ordered_45 : decode cX3_ordered 45 = .ok (.aload_n 0, 1) := by decide +kernel
theorem dX3_ordered_46 : decode cX3_ordered 46 = .ok (.iload_n 1, 1) := by decide +kernel
theorem dX3_ordered_47 : decode cX3_ordered 47 = .ok (.invokevirtual 146, 3) := by decide +kernel
theorem dX3_ordered_50 : decode cX3_ordered 50 = .ok (.ireturn, 1) := by decide +kernel
theorem dX3_proposal_0 : decode cX3_proposal 0 = .ok (.aload_n 0, 1) := by decide +kernel
theorem dX3_proposal_1 : decode cX3_proposal 1 = .ok (.aload_n 0, 1) := by decide +kernel
theorem dX3_proposal_2 : decode cX3_proposal 2 = .ok (.iload_n 1, 1) := by decide +kernel
theorem dX3_proposal_3 : decode cX3_proposal 3 = .ok (.iload_n 2, 1) := by decide +kernel
theorem dX3_proposal_4 : decode cX3_proposal 4 = .ok (.invokevirtual 118, 3) := by decide +kernel
theorem dX3_proposal_7 : decode cX3_proposal 7 = .ok (.ifCond .eq 7, 3) := by decide +kernel
theorem dX3_proposal_10 : decode cX3_proposal 10 = .ok (.iconst 0, 1) := by decide +kernel
theorem dX3_proposal_11 : decode cX3_proposal 11 = .ok (.goto 4, 3) := by decide +kernel
theorem dX3_proposal_14 : decode cX3_proposal 14 = .ok (.iconst 1, 1) := by decide +kernel
theorem dX3_proposal_15 : decode cX3_proposal 15 = .ok (.putfield 62, 3) := by decide +kernel
theorem dX3_proposal_18 : decode cX3_proposal 18 = .ok (.aload_n 0, 1) := by decide +kernel
theorem dX3_proposal_19 : decode cX3_proposal 19 = .ok (.getfield 62, 3) := by decide +kernel
theorem dX3_proposal_22 : decode cX3_proposal 22 = .ok (.ifCond .le 7, 3) := by decide +kernel
theorem dX3_proposal_25 : decode cX3_proposal 25 = .ok (.iconst 0, 1) := by decide +kernel
theorem dX3_proposal_26 : decode cX3_proposal 26 = .ok (.goto 13, 3) := by decide +kernel
theorem dX3_proposal_29 : decode cX3_proposal 29 = .ok (.aload_n 0, 1) := by decide +kernel
theorem dX3_proposal_30 : decode cX3_proposal 30 = .ok (.getfield 19, 3) := by decide +kernel
theorem dX3_proposal_33 : decode cX3_proposal 33 = .ok (.iconst 4, 1) := by decide +kernel
theorem dX3_proposal_34 : decode cX3_proposal 34 = .ok (.iload_n 1, 1) := by decide +kernel
theorem dX3_proposal_35 : decode cX3_proposal 35 = .ok (.imul, 1) := by decide +kernel
theorem dX3_proposal_36 : decode cX3_proposal 36 = .ok (.iload_n 2, 1) := by decide +kernel
theorem dX3_proposal_37 : decode cX3_proposal 37 = .ok (.iadd, 1) := by decide +kernel
theorem dX3_proposal_38 : decode cX3_proposal 38 = .ok (.iaload, 1) := by decide +kernel
theorem dX3_proposal_39 : decode cX3_proposal 39 = .ok (.ireturn, 1) := by decide +kernel
theorem dX3_agreed_0 : decode cX3_agreed 0 = .ok (.aload_n 0, 1) := by decide +kernel
theorem dX3_agreed_1 : decode cX3_agreed 1 = .ok (.aload_n 0, 1) := by decide +kernel
theorem dX3_agreed_2 : decode cX3_agreed 2 = .ok (.iload_n 1, 1) := by decide +kernel
theorem dX3_agreed_3 : decode cX3_agreed 3 = .ok (.invokevirtual 73, 3) := by decide +kernel
theorem dX3_agreed_6 : decode cX3_agreed 6 = .ok (.ifCond .eq 7, 3) := by decide +kernel
theorem dX3_agreed_9 : decode cX3_agreed 9 = .ok (.iconst 0, 1) := by decide +kernel
theorem dX3_agreed_10 : decode cX3_agreed 10 = .ok (.goto 4, 3) := by decide +kernel
theorem dX3_agreed_13 : decode cX3_agreed 13 = .ok (.iconst 1, 1) := by decide +kernel
theorem dX3_agreed_14 : decode cX3_agreed 14 = .ok (.putfield 62, 3) := by decide +kernel
theorem dX3_agreed_17 : decode cX3_agreed 17 = .ok (.aload_n 0, 1) := by decide +kernel
theorem dX3_agreed_18 : decode cX3_agreed 18 = .ok (.getfield 62, 3) := by decide +kernel
theorem dX3_agreed_21 : decode cX3_agreed 21 = .ok (.ifCond .le 7, 3) := by decide +kernel
theorem dX3_agreed_24 : decode cX3_agreed 24 = .ok (.iconst 0, 1) := by decide +kernel
theorem dX3_agreed_25 : decode cX3_agreed 25 = .ok (.goto 9, 3) := by decide +kernel
theorem dX3_agreed_28 : decode cX3_agreed 28 = .ok (.aload_n 0, 1) := by decide +kernel
theorem dX3_agreed_29 : decode cX3_agreed 29 = .ok (.getfield 29, 3) := by decide +kernel
theorem dX3_agreed_32 : decode cX3_agreed 32 = .ok (.iload_n 1, 1) := by decide +kernel
theorem dX3_agreed_33 : decode cX3_agreed 33 = .ok (.iaload, 1) := by decide +kernel
theorem dX3_agreed_34 : decode cX3_agreed 34 = .ok (.ireturn, 1) := by decide +kernel
theorem dX3_agreedAt_0 : decode cX3_agreedAt 0 = .ok (.iconst (-1), 1) := by decide +kernel
theorem dX3_agreedAt_1 : decode cX3_agreedAt 1 = .ok (.istore_n 2, 1) := by decide +kernel
theorem dX3_agreedAt_2 : decode cX3_agreedAt 2 = .ok (.iconst 0, 1) := by decide +kernel
theorem dX3_agreedAt_3 : decode cX3_agreedAt 3 = .ok (.istore_n 3, 1) := by decide +kernel
theorem dX3_agreedAt_4 : decode cX3_agreedAt 4 = .ok (.iload_n 3, 1) := by decide +kernel
theorem dX3_agreedAt_5 : decode cX3_agreedAt 5 = .ok (.aload_n 0, 1) := by decide +kernel
theorem dX3_agreedAt_6 : decode cX3_agreedAt 6 = .ok (.getfield 70, 3) := by decide +kernel
theorem dX3_agreedAt_9 : decode cX3_agreedAt 9 = .ok (.if_icmp .ge 89, 3) := by decide +kernel
theorem dX3_agreedAt_12 : decode cX3_agreedAt 12 = .ok (.iconst 0, 1) := by decide +kernel
theorem dX3_agreedAt_13 : decode cX3_agreedAt 13 = .ok (.istore 4, 2) := by decide +kernel
theorem dX3_agreedAt_15 : decode cX3_agreedAt 15 = .ok (.iconst 0, 1) := by decide +kernel
theorem dX3_agreedAt_16 : decode cX3_agreedAt 16 = .ok (.istore 5, 2) := by decide +kernel
theorem dX3_agreedAt_18 : decode cX3_agreedAt 18 = .ok (.iload 5, 2) := by decide +kernel
theorem dX3_agreedAt_20 : decode cX3_agreedAt 20 = .ok (.aload_n 0, 1) := by decide +kernel
theorem dX3_agreedAt_21 : decode cX3_agreedAt 21 = .ok (.getfield 70, 3) := by decide +kernel
theorem dX3_agreedAt_24 : decode cX3_agreedAt 24 = .ok (.if_icmp .ge 46, 3) := by decide +kernel
theorem dX3_agreedAt_27 : decode cX3_agreedAt 27 = .ok (.iload 4, 2) := by decide +kernel
theorem dX3_agreedAt_29 : decode cX3_agreedAt 29 = .ok (.aload_n 0, 1) := by decide +kernel
theorem dX3_agreedAt_30 : decode cX3_agreedAt 30 = .ok (.getfield 29, 3) := by decide +kernel
theorem dX3_agreedAt_33 : decode cX3_agreedAt 33 = .ok (.iload 5, 2) := by decide +kernel
theorem dX3_agreedAt_35 : decode cX3_agreedAt 35 = .ok (.iaload, 1) := by decide +kernel
theorem dX3_agreedAt_36 : decode cX3_agreedAt 36 = .ok (.iconst (-1), 1) := by decide +kernel
theorem dX3_agreedAt_37 : decode cX3_agreedAt 37 = .ok (.if_icmp .eq 23, 3) := by decide +kernel
theorem dX3_agreedAt_40 : decode cX3_agreedAt 40 = .ok (.aload_n 0, 1) := by decide +kernel
theorem dX3_agreedAt_41 : decode cX3_agreedAt 41 = .ok (.getfield 29, 3) := by decide +kernel
theorem dX3_agreedAt_44 : decode cX3_agreedAt 44 = .ok (.iload 5, 2) := by decide +kernel
theorem dX3_agreedAt_46 : decode cX3_agreedAt 46 = .ok (.iaload, 1) := by decide +kernel
theorem dX3_agreedAt_47 : decode cX3_agreedAt 47 = .ok (.aload_n 0, 1) := by decide +kernel
theorem dX3_agreedAt_48 : decode cX3_agreedAt 48 = .ok (.getfield 29, 3) := by decide +kernel
theorem dX3_agreedAt_51 : decode cX3_agreedAt 51 = .ok (.iload_n 3, 1) := by decide +kernel
theorem dX3_agreedAt_52 : decode cX3_agreedAt 52 = .ok (.iaload, 1) := by decide +kernel
theorem dX3_agreedAt_53 : decode cX3_agreedAt 53 = .ok (.if_icmp .ge 7, 3) := by decide +kernel
theorem dX3_agreedAt_56 : decode cX3_agreedAt 56 = .ok (.iconst 1, 1) := by decide +kernel
theorem dX3_agreedAt_57 : decode cX3_agreedAt 57 = .ok (.goto 4, 3) := by decide +kernel
theorem dX3_agreedAt_60 : decode cX3_agreedAt 60 = .ok (.iconst 0, 1) := by decide +kernel
theorem dX3_agreedAt_61 : decode cX3_agreedAt 61 = .ok (.iadd, 1) := by decide +kernel
theorem dX3_agreedAt_62 : decode cX3_agreedAt 62 = .ok (.istore 4, 2) := by decide +kernel
theorem dX3_agreedAt_64 : decode cX3_agreedAt 64 = .ok (.iinc 5 1, 3) := by decide +kernel
theorem dX3_agreedAt_67 : decode cX3_agreedAt 67 = .ok (.goto (-49), 3) := by decide +kernel
theorem dX3_agreedAt_70 : decode cX3_agreedAt 70 = .ok (.aload_n 0, 1) := by decide +kernel
theorem dX3_agreedAt_71 : decode cX3_agreedAt 71 = .ok (.getfield 29, 3) := by decide +kernel
theorem dX3_agreedAt_74 : decode cX3_agreedAt 74 = .ok (.iload_n 3, 1) := by decide +kernel
theorem dX3_agreedAt_75 : decode cX3_agreedAt 75 = .ok (.iaload, 1) := by decide +kernel
theorem dX3_agreedAt_76 : decode cX3_agreedAt 76 = .ok (.iconst (-1), 1) := by decide +kernel
theorem dX3_agreedAt_77 : decode cX3_agreedAt 77 = .ok (.if_icmp .eq 13, 3) := by decide +kernel
theorem dX3_agreedAt_80 : decode cX3_agreedAt 80 = .ok (.iload 4, 2) := by decide +kernel
theorem dX3_agreedAt_82 : decode cX3_agreedAt 82 = .ok (.iload_n 1, 1) := by decide +kernel
theorem dX3_agreedAt_83 : decode cX3_agreedAt 83 = .ok (.if_icmp .ne 7, 3) := by decide +kernel
theorem dX3_agreedAt_86 : decode cX3_agreedAt 86 = .ok (.iload_n 3, 1) := by decide +kernel
theorem dX3_agreedAt_87 : decode cX3_agreedAt 87 = .ok (.goto 4, 3) := by decide +kernel
theorem dX3_agreedAt_90 : decode cX3_agreedAt 90 = .ok (.iload_n 2, 1) := by decide +kernel
theorem dX3_agreedAt_91 : decode cX3_agreedAt 91 = .ok (.istore_n 2, 1) := by decide +kernel
theorem dX3_agreedAt_92 : decode cX3_agreedAt 92 = .ok (.iinc 3 1, 3) := by decide +kernel
theorem dX3_agreedAt_95 : decode cX3_agreedAt 95 = .ok (.goto (-91), 3) := by decide +kernel
theorem dX3_agreedAt_98 : decode cX3_agreedAt 98 = .ok (.aload_n 0, 1) := by decide +kernel
theorem dX3_agreedAt_99 : decode cX3_agreedAt 99 = .ok (.iload_n 2, 1) := by decide +kernel
theorem dX3_agreedAt_100 : decode cX3_agreedAt 100 = .ok (.iconst (-1), 1) := by decide +kernel
theorem dX3_agreedAt_101 : decode cX3_agreedAt 101 = .ok (.if_icmp .ne 7, 3) := by decide +kernel
theorem dX3_agreedAt_104 : decode cX3_agreedAt 104 = .ok (.iconst 1, 1) := by decide +kernel
theorem dX3_agreedAt_105 : decode cX3_agreedAt 105 = .ok (.goto 4, 3) := by decide +kernel
theorem dX3_agreedAt_108 : decode cX3_agreedAt 108 = .ok (.iconst 0, 1) := by decide +kernel
theorem dX3_agreedAt_109 : decode cX3_agreedAt 109 = .ok (.putfield 62, 3) := by decide +kernel
theorem dX3_agreedAt_112 : decode cX3_agreedAt 112 = .ok (.aload_n 0, 1) := by decide +kernel
theorem dX3_agreedAt_113 : decode cX3_agreedAt 113 = .ok (.getfield 62, 3) := by decide +kernel
theorem dX3_agreedAt_116 : decode cX3_agreedAt 116 = .ok (.ifCond .le 7, 3) := by decide +kernel
theorem dX3_agreedAt_119 : decode cX3_agreedAt 119 = .ok (.iconst 0, 1) := by decide +kernel
theorem dX3_agreedAt_120 : decode cX3_agreedAt 120 = .ok (.goto 4, 3) := by decide +kernel
theorem dX3_agreedAt_123 : decode cX3_agreedAt 123 = .ok (.iload_n 2, 1) := by decide +kernel
theorem dX3_agreedAt_124 : decode cX3_agreedAt 124 = .ok (.ireturn, 1) := by decide +kernel
theorem dX3_alive_0 : decode cX3_alive 0 = .ok (.iconst 0, 1) := by decide +kernel
theorem dX3_alive_1 : decode cX3_alive 1 = .ok (.istore_n 1, 1) := by decide +kernel
theorem dX3_alive_2 : decode cX3_alive 2 = .ok (.iconst 0, 1) := by decide +kernel
theorem dX3_alive_3 : decode cX3_alive 3 = .ok (.istore_n 2, 1) := by decide +kernel
theorem dX3_alive_4 : decode cX3_alive 4 = .ok (.iload_n 2, 1) := by decide +kernel
theorem dX3_alive_5 : decode cX3_alive 5 = .ok (.iconst 4, 1) := by decide +kernel
theorem dX3_alive_6 : decode cX3_alive 6 = .ok (.if_icmp .ge 26, 3) := by decide +kernel
theorem dX3_alive_9 : decode cX3_alive 9 = .ok (.iload_n 1, 1) := by decide +kernel
theorem dX3_alive_10 : decode cX3_alive 10 = .ok (.aload_n 0, 1) := by decide +kernel
theorem dX3_alive_11 : decode cX3_alive 11 = .ok (.getfield 32, 3) := by decide +kernel
theorem dX3_alive_14 : decode cX3_alive 14 = .ok (.iload_n 2, 1) := by decide +kernel
theorem dX3_alive_15 : decode cX3_alive 15 = .ok (.baload, 1) := by decide +kernel
theorem dX3_alive_16 : decode cX3_alive 16 = .ok (.ifCond .eq 7, 3) := by decide +kernel
theorem dX3_alive_19 : decode cX3_alive 19 = .ok (.iconst 0, 1) := by decide +kernel
theorem dX3_alive_20 : decode cX3_alive 20 = .ok (.goto 4, 3) := by decide +kernel
theorem dX3_alive_23 : decode cX3_alive 23 = .ok (.iconst 1, 1) := by decide +kernel
theorem dX3_alive_24 : decode cX3_alive 24 = .ok (.iadd, 1) := by decide +kernel
theorem dX3_alive_25 : decode cX3_alive 25 = .ok (.istore_n 1, 1) := by decide +kernel
theorem dX3_alive_26 : decode cX3_alive 26 = .ok (.iinc 2 1, 3) := by decide +kernel
theorem dX3_alive_29 : decode cX3_alive 29 = .ok (.goto (-25), 3) := by decide +kernel
theorem dX3_alive_32 : decode cX3_alive 32 = .ok (.iload_n 1, 1) := by decide +kernel
theorem dX3_alive_33 : decode cX3_alive 33 = .ok (.ireturn, 1) := by decide +kernel
theorem dX3_fail_0 : decode cX3_fail 0 = .ok (.aload_n 0, 1) := by decide +kernel
theorem dX3_fail_1 : decode cX3_fail 1 = .ok (.iload_n 1, 1) := by decide +kernel
theorem dX3_fail_2 : decode cX3_fail 2 = .ok (.invokestatic 77, 3) := by decide +kernel
theorem dX3_fail_5 : decode cX3_fail 5 = .ok (.ifCond .ne 7, 3) := by decide +kernel
theorem dX3_fail_8 : decode cX3_fail 8 = .ok (.iconst 1, 1) := by decide +kernel
theorem dX3_fail_9 : decode cX3_fail 9 = .ok (.goto 25, 3) := by decide +kernel
theorem dX3_fail_12 : decode cX3_fail 12 = .ok (.aload_n 0, 1) := by decide +kernel
theorem dX3_fail_13 : decode cX3_fail 13 = .ok (.getfield 32, 3) := by decide +kernel
theorem dX3_fail_16 : decode cX3_fail 16 = .ok (.iload_n 1, 1) := by decide +kernel
theorem dX3_fail_17 : decode cX3_fail 17 = .ok (.baload, 1) := by decide +kernel
theorem dX3_fail_18 : decode cX3_fail 18 = .ok (.ifCond .ne 11, 3) := by decide +kernel
theorem dX3_fail_21 : decode cX3_fail 21 = .ok (.aload_n 0, 1) := by decide +kernel
theorem dX3_fail_22 : decode cX3_fail 22 = .ok (.invokevirtual 149, 3) := by decide +kernel
theorem dX3_fail_25 : decode cX3_fail 25 = .ok (.iconst 1, 1) := by decide +kernel
theorem dX3_fail_26 : decode cX3_fail 26 = .ok (.if_icmp .ne 7, 3) := by decide +kernel
theorem dX3_fail_29 : decode cX3_fail 29 = .ok (.iconst 2, 1) := by decide +kernel
theorem dX3_fail_30 : decode cX3_fail 30 = .ok (.goto 4, 3) := by decide +kernel
theorem dX3_fail_33 : decode cX3_fail 33 = .ok (.iconst 0, 1) := by decide +kernel
theorem dX3_fail_34 : decode cX3_fail 34 = .ok (.putfield 62, 3) := by decide +kernel
theorem dX3_fail_37 : decode cX3_fail 37 = .ok (.aload_n 0, 1) := by decide +kernel
theorem dX3_fail_38 : decode cX3_fail 38 = .ok (.getfield 62, 3) := by decide +kernel
theorem dX3_fail_41 : decode cX3_fail 41 = .ok (.ifCond .ne 32, 3) := by decide +kernel
theorem dX3_fail_44 : decode cX3_fail 44 = .ok (.aload_n 0, 1) := by decide +kernel
theorem dX3_fail_45 : decode cX3_fail 45 = .ok (.getfield 59, 3) := by decide +kernel
theorem dX3_fail_48 : decode cX3_fail 48 = .ok (.iload_n 1, 1) := by decide +kernel
theorem dX3_fail_49 : decode cX3_fail 49 = .ok (.aload_n 0, 1) := by decide +kernel
theorem dX3_fail_50 : decode cX3_fail 50 = .ok (.iload_n 1, 1) := by decide +kernel
theorem dX3_fail_51 : decode cX3_fail 51 = .ok (.invokevirtual 146, 3) := by decide +kernel
theorem dX3_fail_54 : decode cX3_fail 54 = .ok (.iastore, 1) := by decide +kernel
theorem dX3_fail_55 : decode cX3_fail 55 = .ok (.aload_n 0, 1) := by decide +kernel
theorem dX3_fail_56 : decode cX3_fail 56 = .ok (.getfield 56, 3) := by decide +kernel
theorem dX3_fail_59 : decode cX3_fail 59 = .ok (.iload_n 1, 1) := by decide +kernel
theorem dX3_fail_60 : decode cX3_fail 60 = .ok (.aload_n 0, 1) := by decide +kernel
theorem dX3_fail_61 : decode cX3_fail 61 = .ok (.iload_n 1, 1) := by decide +kernel
theorem dX3_fail_62 : decode cX3_fail 62 = .ok (.invokevirtual 140, 3) := by decide +kernel
theorem dX3_fail_65 : decode cX3_fail 65 = .ok (.iastore, 1) := by decide +kernel
theorem dX3_fail_66 : decode cX3_fail 66 = .ok (.aload_n 0, 1) := by decide +kernel
theorem dX3_fail_67 : decode cX3_fail 67 = .ok (.getfield 32, 3) := by decide +kernel
theorem dX3_fail_70 : decode cX3_fail 70 = .ok (.iload_n 1, 1) := by decide +kernel
theorem dX3_fail_71 : decode cX3_fail 71 = .ok (.iconst 1, 1) := by decide +kernel
theorem dX3_fail_72 : decode cX3_fail 72 = .ok (.bastore, 1) := by decide +kernel
theorem dX3_fail_73 : decode cX3_fail 73 = .ok (.return_, 1) := by decide +kernel
theorem dX3_isLeft_0 : decode cX3_isLeft 0 = .ok (.iconst 0, 1) := by decide +kernel
theorem dX3_isLeft_1 : decode cX3_isLeft 1 = .ok (.istore_n 2, 1) := by decide +kernel
theorem dX3_isLeft_2 : decode cX3_isLeft 2 = .ok (.iconst 0, 1) := by decide +kernel
theorem dX3_isLeft_3 : decode cX3_isLeft 3 = .ok (.istore_n 3, 1) := by decide +kernel
theorem dX3_isLeft_4 : decode cX3_isLeft 4 = .ok (.iload_n 3, 1) := by decide +kernel
theorem dX3_isLeft_5 : decode cX3_isLeft 5 = .ok (.iconst 4, 1) := by decide +kernel
theorem dX3_isLeft_6 : decode cX3_isLeft 6 = .ok (.if_icmp .ge 52, 3) := by decide +kernel
theorem dX3_isLeft_9 : decode cX3_isLeft 9 = .ok (.aload_n 0, 1) := by decide +kernel
theorem dX3_isLeft_10 : decode cX3_isLeft 10 = .ok (.getfield 13, 3) := by decide +kernel
theorem dX3_isLeft_13 : decode cX3_isLeft 13 = .ok (.iconst 4, 1) := by decide +kernel
theorem dX3_isLeft_14 : decode cX3_isLeft 14 = .ok (.iload_n 1, 1) := by decide +kernel
theorem dX3_isLeft_15 : decode cX3_isLeft 15 = .ok (.imul, 1) := by decide +kernel
theorem dX3_isLeft_16 : decode cX3_isLeft 16 = .ok (.iload_n 3, 1) := by decide +kernel
theorem dX3_isLeft_17 : decode cX3_isLeft 17 = .ok (.iadd, 1) := by decide +kernel
theorem dX3_isLeft_18 : decode cX3_isLeft 18 = .ok (.iaload, 1) := by decide +kernel
theorem dX3_isLeft_19 : decode cX3_isLeft 19 = .ok (.istore 4, 2) := by decide +kernel
theorem dX3_isLeft_21 : decode cX3_isLeft 21 = .ok (.iload_n 2, 1) := by decide +kernel
theorem dX3_isLeft_22 : decode cX3_isLeft 22 = .ok (.ifCond .ne 24, 3) := by decide +kernel
theorem dX3_isLeft_25 : decode cX3_isLeft 25 = .ok (.aload_n 0, 1) := by decide +kernel
theorem dX3_isLeft_26 : decode cX3_isLeft 26 = .ok (.getfield 32, 3) := by decide +kernel
theorem dX3_isLeft_29 : decode cX3_isLeft 29 = .ok (.iload_n 3, 1) := by decide +kernel
theorem dX3_isLeft_30 : decode cX3_isLeft 30 = .ok (.baload, 1) := by decide +kernel
theorem dX3_isLeft_31 : decode cX3_isLeft 31 = .ok (.ifCond .ne 19, 3) := by decide +kernel
theorem dX3_isLeft_34 : decode cX3_isLeft 34 = .ok (.iload 4, 2) := by decide +kernel
theorem dX3_isLeft_36 : decode cX3_isLeft 36 = .ok (.iconst 2, 1) := by decide +kernel
theorem dX3_isLeft_37 : decode cX3_isLeft 37 = .ok (.if_icmp .eq 9, 3) := by decide +kernel
theorem dX3_isLeft_40 : decode cX3_isLeft 40 = .ok (.iload 4, 2) := by decide +kernel
theorem dX3_isLeft_42 : decode cX3_isLeft 42 = .ok (.iconst 1, 1) := by decide +kernel
theorem dX3_isLeft_43 : decode cX3_isLeft 43 = .ok (.if_icmp .ne 7, 3) := by decide +kernel
theorem dX3_isLeft_46 : decode cX3_isLeft 46 = .ok (.iconst 1, 1) := by decide +kernel
theorem dX3_isLeft_47 : decode cX3_isLeft 47 = .ok (.goto 4, 3) := by decide +kernel
theorem dX3_isLeft_50 : decode cX3_isLeft 50 = .ok (.iconst 0, 1) := by decide +kernel
theorem dX3_isLeft_51 : decode cX3_isLeft 51 = .ok (.istore_n 2, 1) := by decide +kernel
theorem dX3_isLeft_52 : decode cX3_isLeft 52 = .ok (.iinc 3 1, 3) := by decide +kernel
theorem dX3_isLeft_55 : decode cX3_isLeft 55 = .ok (.goto (-51), 3) := by decide +kernel
theorem dX3_isLeft_58 : decode cX3_isLeft 58 = .ok (.iconst 0, 1) := by decide +kernel
theorem dX3_isLeft_59 : decode cX3_isLeft 59 = .ok (.istore_n 3, 1) := by decide +kernel
theorem dX3_isLeft_60 : decode cX3_isLeft 60 = .ok (.iload_n 3, 1) := by decide +kernel
theorem dX3_isLeft_61 : decode cX3_isLeft 61 = .ok (.iload_n 1, 1) := by decide +kernel
theorem dX3_isLeft_62 : decode cX3_isLeft 62 = .ok (.if_icmp .ge 37, 3) := by decide +kernel
theorem dX3_isLeft_65 : decode cX3_isLeft 65 = .ok (.iload_n 2, 1) := by decide +kernel
theorem dX3_isLeft_66 : decode cX3_isLeft 66 = .ok (.ifCond .eq 33, 3) := by decide +kernel
theorem dX3_isLeft_69 : decode cX3_isLeft 69 = .ok (.aload_n 0, 1) := by decide +kernel
theorem dX3_isLeft_70 : decode cX3_isLeft 70 = .ok (.getfield 22, 3) := by decide +kernel
theorem dX3_isLeft_73 : decode cX3_isLeft 73 = .ok (.iload_n 3, 1) := by decide +kernel
theorem dX3_isLeft_74 : decode cX3_isLeft 74 = .ok (.baload, 1) := by decide +kernel
theorem dX3_isLeft_75 : decode cX3_isLeft 75 = .ok (.ifCond .eq 12, 3) := by decide +kernel
theorem dX3_isLeft_78 : decode cX3_isLeft 78 = .ok (.aload_n 0, 1) := by decide +kernel
theorem dX3_isLeft_79 : decode cX3_isLeft 79 = .ok (.iload_n 3, 1) := by decide +kernel
theorem dX3_isLeft_80 : decode cX3_isLeft 80 = .ok (.iload_n 1, 1) := by decide +kernel
theorem dX3_isLeft_81 : decode cX3_isLeft 81 = .ok (.invokevirtual 128, 3) := by decide +kernel
theorem dX3_isLeft_84 : decode cX3_isLeft 84 = .ok (.ifCond .ne 7, 3) := by decide +kernel
theorem dX3_isLeft_87 : decode cX3_isLeft 87 = .ok (.iconst 1, 1) := by decide +kernel
theorem dX3_isLeft_88 : decode cX3_isLeft 88 = .ok (.goto 4, 3) := by decide +kernel
theorem dX3_isLeft_91 : decode cX3_isLeft 91 = .ok (.iconst 0, 1) := by decide +kernel
theorem dX3_isLeft_92 : decode cX3_isLeft 92 = .ok (.istore_n 2, 1) := by decide +kernel
theorem dX3_isLeft_93 : decode cX3_isLeft 93 = .ok (.iinc 3 1, 3) := by decide +kernel
theorem dX3_isLeft_96 : decode cX3_isLeft 96 = .ok (.goto (-36), 3) := by decide +kernel
theorem dX3_isLeft_99 : decode cX3_isLeft 99 = .ok (.iload_n 2, 1) := by decide +kernel
theorem dX3_isLeft_100 : decode cX3_isLeft 100 = .ok (.ireturn, 1) := by decide +kernel
theorem dX3_drops_0 : decode cX3_drops 0 = .ok (.aload_n 0, 1) := by decide +kernel
theorem dX3_drops_1 : decode cX3_drops 1 = .ok (.getfield 22, 3) := by decide +kernel
theorem dX3_drops_4 : decode cX3_drops 4 = .ok (.iload_n 1, 1) := by decide +kernel
theorem dX3_drops_5 : decode cX3_drops 5 = .ok (.iconst 1, 1) := by decide +kernel
theorem dX3_drops_6 : decode cX3_drops 6 = .ok (.bastore, 1) := by decide +kernel
theorem dX3_drops_7 : decode cX3_drops 7 = .ok (.iconst 0, 1) := by decide +kernel
theorem dX3_drops_8 : decode cX3_drops 8 = .ok (.istore_n 2, 1) := by decide +kernel
theorem dX3_drops_9 : decode cX3_drops 9 = .ok (.iload_n 2, 1) := by decide +kernel
theorem dX3_drops_10 : decode cX3_drops 10 = .ok (.iconst 4, 1) := by decide +kernel
theorem dX3_drops_11 : decode cX3_drops 11 = .ok (.if_icmp .ge 49, 3) := by decide +kernel
theorem dX3_drops_14 : decode cX3_drops 14 = .ok (.aload_n 0, 1) := by decide +kernel
theorem dX3_drops_15 : decode cX3_drops 15 = .ok (.getfield 13, 3) := by decide +kernel
theorem dX3_drops_18 : decode cX3_drops 18 = .ok (.iconst 4, 1) := by decide +kernel
theorem dX3_drops_19 : decode cX3_drops 19 = .ok (.iload_n 1, 1) := by decide +kernel
theorem dX3_drops_20 : decode cX3_drops 20 = .ok (.imul, 1) := by decide +kernel
theorem dX3_drops_21 : decode cX3_drops 21 = .ok (.iload_n 2, 1) := by decide +kernel
theorem dX3_drops_22 : decode cX3_drops 22 = .ok (.iadd, 1) := by decide +kernel
theorem dX3_drops_23 : decode cX3_drops 23 = .ok (.iaload, 1) := by decide +kernel
theorem dX3_drops_24 : decode cX3_drops 24 = .ok (.iconst 1, 1) := by decide +kernel
theorem dX3_drops_25 : decode cX3_drops 25 = .ok (.if_icmp .ne 18, 3) := by decide +kernel
theorem dX3_drops_28 : decode cX3_drops 28 = .ok (.aload_n 0, 1) := by decide +kernel
theorem dX3_drops_29 : decode cX3_drops 29 = .ok (.getfield 32, 3) := by decide +kernel
theorem dX3_drops_32 : decode cX3_drops 32 = .ok (.iload_n 2, 1) := by decide +kernel
theorem dX3_drops_33 : decode cX3_drops 33 = .ok (.baload, 1) := by decide +kernel
theorem dX3_drops_34 : decode cX3_drops 34 = .ok (.ifCond .ne 9, 3) := by decide +kernel
theorem dX3_drops_37 : decode cX3_drops 37 = .ok (.aload_n 0, 1) := by decide +kernel
theorem dX3_drops_38 : decode cX3_drops 38 = .ok (.iload_n 1, 1) := by decide +kernel
theorem dX3_drops_39 : decode cX3_drops 39 = .ok (.iload_n 2, 1) := by decide +kernel
theorem dX3_drops_40 : decode cX3_drops 40 = .ok (.invokevirtual 94, 3) := by decide +kernel
theorem dX3_drops_43 : decode cX3_drops 43 = .ok (.aload_n 0, 1) := by decide +kernel
theorem dX3_drops_44 : decode cX3_drops 44 = .ok (.getfield 13, 3) := by decide +kernel
theorem dX3_drops_47 : decode cX3_drops 47 = .ok (.iconst 4, 1) := by decide +kernel
theorem dX3_drops_48 : decode cX3_drops 48 = .ok (.iload_n 1, 1) := by decide +kernel
theorem dX3_drops_49 : decode cX3_drops 49 = .ok (.imul, 1) := by decide +kernel
theorem dX3_drops_50 : decode cX3_drops 50 = .ok (.iload_n 2, 1) := by decide +kernel
theorem dX3_drops_51 : decode cX3_drops 51 = .ok (.iadd, 1) := by decide +kernel
theorem dX3_drops_52 : decode cX3_drops 52 = .ok (.iconst 4, 1) := by decide +kernel
theorem dX3_drops_53 : decode cX3_drops 53 = .ok (.iastore, 1) := by decide +kernel
theorem dX3_drops_54 : decode cX3_drops 54 = .ok (.iinc 2 1, 3) := by decide +kernel
theorem dX3_drops_57 : decode cX3_drops 57 = .ok (.goto (-48), 3) := by decide +kernel
theorem dX3_drops_60 : decode cX3_drops 60 = .ok (.aload_n 0, 1) := by decide +kernel
theorem dX3_drops_61 : decode cX3_drops 61 = .ok (.getfield 26, 3) := by decide +kernel
theorem dX3_drops_64 : decode cX3_drops 64 = .ok (.iload_n 1, 1) := by decide +kernel
theorem dX3_drops_65 : decode cX3_drops 65 = .ok (.iaload, 1) := by decide +kernel
theorem dX3_drops_66 : decode cX3_drops 66 = .ok (.iconst (-1), 1) := by decide +kernel
theorem dX3_drops_67 : decode cX3_drops 67 = .ok (.if_icmp .eq 65, 3) := by decide +kernel
theorem dX3_drops_70 : decode cX3_drops 70 = .ok (.iconst 0, 1) := by decide +kernel
theorem dX3_drops_71 : decode cX3_drops 71 = .ok (.istore_n 2, 1) := by decide +kernel
theorem dX3_drops_72 : decode cX3_drops 72 = .ok (.iload_n 2, 1) := by decide +kernel
theorem dX3_drops_73 : decode cX3_drops 73 = .ok (.aload_n 0, 1) := by decide +kernel
theorem dX3_drops_74 : decode cX3_drops 74 = .ok (.getfield 70, 3) := by decide +kernel
theorem dX3_drops_77 : decode cX3_drops 77 = .ok (.if_icmp .ge 38, 3) := by decide +kernel
theorem dX3_drops_80 : decode cX3_drops 80 = .ok (.aload_n 0, 1) := by decide +kernel
theorem dX3_drops_81 : decode cX3_drops 81 = .ok (.getfield 26, 3) := by decide +kernel
theorem dX3_drops_84 : decode cX3_drops 84 = .ok (.iload_n 2, 1) := by decide +kernel
theorem dX3_drops_85 : decode cX3_drops 85 = .ok (.dup2, 1) := by decide +kernel
theorem dX3_drops_86 : decode cX3_drops 86 = .ok (.iaload, 1) := by decide +kernel
theorem dX3_drops_87 : decode cX3_drops 87 = .ok (.aload_n 0, 1) := by decide +kernel
theorem dX3_drops_88 : decode cX3_drops 88 = .ok (.getfield 26, 3) := by decide +kernel
theorem dX3_drops_91 : decode cX3_drops 91 = .ok (.iload_n 2, 1) := by decide +kernel
theorem dX3_drops_92 : decode cX3_drops 92 = .ok (.iaload, 1) := by decide +kernel
theorem dX3_drops_93 : decode cX3_drops 93 = .ok (.aload_n 0, 1) := by decide +kernel
theorem dX3_drops_94 : decode cX3_drops 94 = .ok (.getfield 26, 3) := by decide +kernel
theorem dX3_drops_97 : decode cX3_drops 97 = .ok (.iload_n 1, 1) := by decide +kernel
theorem dX3_drops_98 : decode cX3_drops 98 = .ok (.iaload, 1) := by decide +kernel
theorem dX3_drops_99 : decode cX3_drops 99 = .ok (.if_icmp .le 7, 3) := by decide +kernel
theorem dX3_drops_102 : decode cX3_drops 102 = .ok (.iconst 1, 1) := by decide +kernel
theorem dX3_drops_103 : decode cX3_drops 103 = .ok (.goto 4, 3) := by decide +kernel
theorem dX3_drops_106 : decode cX3_drops 106 = .ok (.iconst 0, 1) := by decide +kernel
theorem dX3_drops_107 : decode cX3_drops 107 = .ok (.isub, 1) := by decide +kernel
theorem dX3_drops_108 : decode cX3_drops 108 = .ok (.iastore, 1) := by decide +kernel
theorem dX3_drops_109 : decode cX3_drops 109 = .ok (.iinc 2 1, 3) := by decide +kernel
theorem dX3_drops_112 : decode cX3_drops 112 = .ok (.goto (-40), 3) := by decide +kernel
theorem dX3_drops_115 : decode cX3_drops 115 = .ok (.aload_n 0, 1) := by decide +kernel
theorem dX3_drops_116 : decode cX3_drops 116 = .ok (.getfield 26, 3) := by decide +kernel
theorem dX3_drops_119 : decode cX3_drops 119 = .ok (.iload_n 1, 1) := by decide +kernel
theorem dX3_drops_120 : decode cX3_drops 120 = .ok (.iconst (-1), 1) := by decide +kernel
theorem dX3_drops_121 : decode cX3_drops 121 = .ok (.iastore, 1) := by decide +kernel
theorem dX3_drops_122 : decode cX3_drops 122 = .ok (.aload_n 0, 1) := by decide +kernel
theorem dX3_drops_123 : decode cX3_drops 123 = .ok (.dup, 1) := by decide +kernel
theorem dX3_drops_124 : decode cX3_drops 124 = .ok (.getfield 80, 3) := by decide +kernel
theorem dX3_drops_127 : decode cX3_drops 127 = .ok (.iconst 1, 1) := by decide +kernel
theorem dX3_drops_128 : decode cX3_drops 128 = .ok (.isub, 1) := by decide +kernel
theorem dX3_drops_129 : decode cX3_drops 129 = .ok (.putfield 80, 3) := by decide +kernel
theorem dX3_drops_132 : decode cX3_drops 132 = .ok (.aload_n 0, 1) := by decide +kernel
theorem dX3_drops_133 : decode cX3_drops 133 = .ok (.getfield 29, 3) := by decide +kernel
theorem dX3_drops_136 : decode cX3_drops 136 = .ok (.iload_n 1, 1) := by decide +kernel
theorem dX3_drops_137 : decode cX3_drops 137 = .ok (.iconst (-1), 1) := by decide +kernel
theorem dX3_drops_138 : decode cX3_drops 138 = .ok (.iastore, 1) := by decide +kernel
theorem dX3_drops_139 : decode cX3_drops 139 = .ok (.return_, 1) := by decide +kernel
theorem dX3_highestFor_0 : decode cX3_highestFor 0 = .ok (.iconst 0, 1) := by decide +kernel
theorem dX3_highestFor_1 : decode cX3_highestFor 1 = .ok (.istore_n 2, 1) := by decide +kernel
theorem dX3_highestFor_2 : decode cX3_highestFor 2 = .ok (.iconst 0, 1) := by decide +kernel
theorem dX3_highestFor_3 : decode cX3_highestFor 3 = .ok (.istore_n 3, 1) := by decide +kernel
theorem dX3_highestFor_4 : decode cX3_highestFor 4 = .ok (.iload_n 3, 1) := by decide +kernel
theorem dX3_highestFor_5 : decode cX3_highestFor 5 = .ok (.iconst 4, 1) := by decide +kernel
theorem dX3_highestFor_6 : decode cX3_highestFor 6 = .ok (.if_icmp .ge 34, 3) := by decide +kernel
theorem dX3_highestFor_9 : decode cX3_highestFor 9 = .ok (.aload_n 0, 1) := by decide +kernel
theorem dX3_highestFor_10 : decode cX3_highestFor 10 = .ok (.getfield 19, 3) := by decide +kernel
theorem dX3_highestFor_13 : decode cX3_highestFor 13 = .ok (.iconst 4, 1) := by decide +kernel
theorem dX3_highestFor_14 : decode cX3_highestFor 14 = .ok (.iload_n 1, 1) := by decide +kernel
theorem dX3_highestFor_15 : decode cX3_highestFor 15 = .ok (.imul, 1) := by decide +kernel
theorem dX3_highestFor_16 : decode cX3_highestFor 16 = .ok (.iload_n 3, 1) := by decide +kernel
theorem dX3_highestFor_17 : decode cX3_highestFor 17 = .ok (.iadd, 1) := by decide +kernel
theorem dX3_highestFor_18 : decode cX3_highestFor 18 = .ok (.iaload, 1) := by decide +kernel
theorem dX3_highestFor_19 : decode cX3_highestFor 19 = .ok (.istore 4, 2) := by decide +kernel
theorem dX3_highestFor_21 : decode cX3_highestFor 21 = .ok (.iload 4, 2) := by decide +kernel
theorem dX3_highestFor_23 : decode cX3_highestFor 23 = .ok (.iload_n 2, 1) := by decide +kernel
theorem dX3_highestFor_24 : decode cX3_highestFor 24 = .ok (.if_icmp .le 8, 3) := by decide +kernel
theorem dX3_highestFor_27 : decode cX3_highestFor 27 = .ok (.iload 4, 2) := by decide +kernel
theorem dX3_highestFor_29 : decode cX3_highestFor 29 = .ok (.goto 4, 3) := by decide +kernel
theorem dX3_highestFor_32 : decode cX3_highestFor 32 = .ok (.iload_n 2, 1) := by decide +kernel
theorem dX3_highestFor_33 : decode cX3_highestFor 33 = .ok (.istore_n 2, 1) := by decide +kernel
theorem dX3_highestFor_34 : decode cX3_highestFor 34 = .ok (.iinc 3 1, 3) := by decide +kernel
theorem dX3_highestFor_37 : decode cX3_highestFor 37 = .ok (.goto (-33), 3) := by decide +kernel
theorem dX3_highestFor_40 : decode cX3_highestFor 40 = .ok (.iload_n 2, 1) := by decide +kernel
theorem dX3_highestFor_41 : decode cX3_highestFor 41 = .ok (.ireturn, 1) := by decide +kernel
theorem dX3_nextToAgree_0 : decode cX3_nextToAgree 0 = .ok (.iconst (-1), 1) := by decide +kernel
theorem dX3_nextToAgree_1 : decode cX3_nextToAgree 1 = .ok (.istore_n 1, 1) := by decide +kernel
theorem dX3_nextToAgree_2 : decode cX3_nextToAgree 2 = .ok (.aload_n 0, 1) := by decide +kernel
theorem dX3_nextToAgree_3 : decode cX3_nextToAgree 3 = .ok (.getfield 70, 3) := by decide +kernel
theorem dX3_nextToAgree_6 : decode cX3_nextToAgree 6 = .ok (.iconst 1, 1) := by decide +kernel
theorem dX3_nextToAgree_7 : decode cX3_nextToAgree 7 = .ok (.isub, 1) := by decide +kernel
theorem dX3_nextToAgree_8 : decode cX3_nextToAgree 8 = .ok (.istore_n 2, 1) := by decide +kernel
theorem dX3_nextToAgree_9 : decode cX3_nextToAgree 9 = .ok (.iload_n 2, 1) := by decide +kernel
theorem dX3_nextToAgree_10 : decode cX3_nextToAgree 10 = .ok (.ifCond .lt 62, 3) := by decide +kernel
theorem dX3_nextToAgree_13 : decode cX3_nextToAgree 13 = .ok (.aload_n 0, 1) := by decide +kernel
theorem dX3_nextToAgree_14 : decode cX3_nextToAgree 14 = .ok (.getfield 22, 3) := by decide +kernel
theorem dX3_nextToAgree_17 : decode cX3_nextToAgree 17 = .ok (.iload_n 2, 1) := by decide +kernel
theorem dX3_nextToAgree_18 : decode cX3_nextToAgree 18 = .ok (.baload, 1) := by decide +kernel
theorem dX3_nextToAgree_19 : decode cX3_nextToAgree 19 = .ok (.ifCond .ne 13, 3) := by decide +kernel
theorem dX3_nextToAgree_22 : decode cX3_nextToAgree 22 = .ok (.aload_n 0, 1) := by decide +kernel
theorem dX3_nextToAgree_23 : decode cX3_nextToAgree 23 = .ok (.getfield 29, 3) := by decide +kernel
theorem dX3_nextToAgree_26 : decode cX3_nextToAgree 26 = .ok (.iload_n 2, 1) := by decide +kernel
theorem dX3_nextToAgree_27 : decode cX3_nextToAgree 27 = .ok (.iaload, 1) := by decide +kernel
theorem dX3_nextToAgree_28 : decode cX3_nextToAgree 28 = .ok (.iconst (-1), 1) := by decide +kernel
theorem dX3_nextToAgree_29 : decode cX3_nextToAgree 29 = .ok (.if_icmp .eq 7, 3) := by decide +kernel
theorem dX3_nextToAgree_32 : decode cX3_nextToAgree 32 = .ok (.iconst 1, 1) := by decide +kernel
theorem dX3_nextToAgree_33 : decode cX3_nextToAgree 33 = .ok (.goto 4, 3) := by decide +kernel
theorem dX3_nextToAgree_36 : decode cX3_nextToAgree 36 = .ok (.iconst 0, 1) := by decide +kernel
theorem dX3_nextToAgree_37 : decode cX3_nextToAgree 37 = .ok (.istore_n 3, 1) := by decide +kernel
theorem dX3_nextToAgree_38 : decode cX3_nextToAgree 38 = .ok (.iload_n 3, 1) := by decide +kernel
theorem dX3_nextToAgree_39 : decode cX3_nextToAgree 39 = .ok (.ifCond .ne 25, 3) := by decide +kernel
theorem dX3_nextToAgree_42 : decode cX3_nextToAgree 42 = .ok (.iload_n 1, 1) := by decide +kernel
theorem dX3_nextToAgree_43 : decode cX3_nextToAgree 43 = .ok (.iconst (-1), 1) := by decide +kernel
theorem dX3_nextToAgree_44 : decode cX3_nextToAgree 44 = .ok (.if_icmp .eq 16, 3) := by decide +kernel
theorem dX3_nextToAgree_47 : decode cX3_nextToAgree 47 = .ok (.aload_n 0, 1) := by decide +kernel
theorem dX3_nextToAgree_48 : decode cX3_nextToAgree 48 = .ok (.iload_n 2, 1) := by decide +kernel
theorem dX3_nextToAgree_49 : decode cX3_nextToAgree 49 = .ok (.invokevirtual 153, 3) := by decide +kernel
theorem dX3_nextToAgree_52 : decode cX3_nextToAgree 52 = .ok (.aload_n 0, 1) := by decide +kernel
theorem dX3_nextToAgree_53 : decode cX3_nextToAgree 53 = .ok (.iload_n 1, 1) := by decide +kernel
theorem dX3_nextToAgree_54 : decode cX3_nextToAgree 54 = .ok (.invokevirtual 153, 3) := by decide +kernel
theorem dX3_nextToAgree_57 : decode cX3_nextToAgree 57 = .ok (.if_icmp .gt 7, 3) := by decide +kernel
theorem dX3_nextToAgree_60 : decode cX3_nextToAgree 60 = .ok (.iload_n 2, 1) := by decide +kernel
theorem dX3_nextToAgree_61 : decode cX3_nextToAgree 61 = .ok (.goto 4, 3) := by decide +kernel
theorem dX3_nextToAgree_64 : decode cX3_nextToAgree 64 = .ok (.iload_n 1, 1) := by decide +kernel
theorem dX3_nextToAgree_65 : decode cX3_nextToAgree 65 = .ok (.istore_n 1, 1) := by decide +kernel
theorem dX3_nextToAgree_66 : decode cX3_nextToAgree 66 = .ok (.iinc 2 (-1), 3) := by decide +kernel
theorem dX3_nextToAgree_69 : decode cX3_nextToAgree 69 = .ok (.goto (-60), 3) := by decide +kernel
theorem dX3_nextToAgree_72 : decode cX3_nextToAgree 72 = .ok (.iload_n 1, 1) := by decide +kernel
theorem dX3_nextToAgree_73 : decode cX3_nextToAgree 73 = .ok (.ireturn, 1) := by decide +kernel
theorem dX3_leaves_0 : decode cX3_leaves 0 = .ok (.iconst 0, 1) := by decide +kernel
theorem dX3_leaves_1 : decode cX3_leaves 1 = .ok (.istore_n 1, 1) := by decide +kernel
theorem dX3_leaves_2 : decode cX3_leaves 2 = .ok (.iload_n 1, 1) := by decide +kernel
theorem dX3_leaves_3 : decode cX3_leaves 3 = .ok (.iconst 4, 1) := by decide +kernel
theorem dX3_leaves_4 : decode cX3_leaves 4 = .ok (.if_icmp .ge 21, 3) := by decide +kernel
theorem dX3_leaves_7 : decode cX3_leaves 7 = .ok (.aload_n 0, 1) := by decide +kernel
theorem dX3_leaves_8 : decode cX3_leaves 8 = .ok (.getfield 35, 3) := by decide +kernel
theorem dX3_leaves_11 : decode cX3_leaves 11 = .ok (.iload_n 1, 1) := by decide +kernel
theorem dX3_leaves_12 : decode cX3_leaves 12 = .ok (.aload_n 0, 1) := by decide +kernel
theorem dX3_leaves_13 : decode cX3_leaves 13 = .ok (.getfield 32, 3) := by decide +kernel
theorem dX3_leaves_16 : decode cX3_leaves 16 = .ok (.iload_n 1, 1) := by decide +kernel
theorem dX3_leaves_17 : decode cX3_leaves 17 = .ok (.baload, 1) := by decide +kernel
theorem dX3_leaves_18 : decode cX3_leaves 18 = .ok (.bastore, 1) := by decide +kernel
theorem dX3_leaves_19 : decode cX3_leaves 19 = .ok (.iinc 1 1, 3) := by decide +kernel
theorem dX3_leaves_22 : decode cX3_leaves 22 = .ok (.goto (-20), 3) := by decide +kernel
theorem dX3_leaves_25 : decode cX3_leaves 25 = .ok (.aload_n 0, 1) := by decide +kernel
theorem dX3_leaves_26 : decode cX3_leaves 26 = .ok (.dup, 1) := by decide +kernel
theorem dX3_leaves_27 : decode cX3_leaves 27 = .ok (.getfield 156, 3) := by decide +kernel
theorem dX3_leaves_30 : decode cX3_leaves 30 = .ok (.iconst 1, 1) := by decide +kernel
theorem dX3_leaves_31 : decode cX3_leaves 31 = .ok (.iadd, 1) := by decide +kernel
theorem dX3_leaves_32 : decode cX3_leaves 32 = .ok (.putfield 156, 3) := by decide +kernel
theorem dX3_leaves_35 : decode cX3_leaves 35 = .ok (.aload_n 0, 1) := by decide +kernel
theorem dX3_leaves_36 : decode cX3_leaves 36 = .ok (.getfield 32, 3) := by decide +kernel
theorem dX3_leaves_39 : decode cX3_leaves 39 = .ok (.aload_n 0, 1) := by decide +kernel
theorem dX3_leaves_40 : decode cX3_leaves 40 = .ok (.getfield 83, 3) := by decide +kernel
theorem dX3_leaves_43 : decode cX3_leaves 43 = .ok (.baload, 1) := by decide +kernel
theorem dX3_leaves_44 : decode cX3_leaves 44 = .ok (.ifCond .eq 26, 3) := by decide +kernel
theorem dX3_leaves_47 : decode cX3_leaves 47 = .ok (.iconst 0, 1) := by decide +kernel
theorem dX3_leaves_48 : decode cX3_leaves 48 = .ok (.istore_n 1, 1) := by decide +kernel
theorem dX3_leaves_49 : decode cX3_leaves 49 = .ok (.aload_n 0, 1) := by decide +kernel
theorem dX3_leaves_50 : decode cX3_leaves 50 = .ok (.getfield 32, 3) := by decide +kernel
theorem dX3_leaves_53 : decode cX3_leaves 53 = .ok (.iload_n 1, 1) := by decide +kernel
theorem dX3_leaves_54 : decode cX3_leaves 54 = .ok (.baload, 1) := by decide +kernel
theorem dX3_leaves_55 : decode cX3_leaves 55 = .ok (.ifCond .eq 9, 3) := by decide +kernel
theorem dX3_leaves_58 : decode cX3_leaves 58 = .ok (.iinc 1 1, 3) := by decide +kernel
theorem dX3_leaves_61 : decode cX3_leaves 61 = .ok (.goto (-12), 3) := by decide +kernel
theorem dX3_leaves_64 : decode cX3_leaves 64 = .ok (.aload_n 0, 1) := by decide +kernel
theorem dX3_leaves_65 : decode cX3_leaves 65 = .ok (.iload_n 1, 1) := by decide +kernel
theorem dX3_leaves_66 : decode cX3_leaves 66 = .ok (.invokevirtual 137, 3) := by decide +kernel
theorem dX3_leaves_69 : decode cX3_leaves 69 = .ok (.pop, 1) := by decide +kernel
theorem dX3_leaves_70 : decode cX3_leaves 70 = .ok (.iconst 0, 1) := by decide +kernel
theorem dX3_leaves_71 : decode cX3_leaves 71 = .ok (.istore_n 1, 1) := by decide +kernel
theorem dX3_leaves_72 : decode cX3_leaves 72 = .ok (.iload_n 1, 1) := by decide +kernel
theorem dX3_leaves_73 : decode cX3_leaves 73 = .ok (.iconst 4, 1) := by decide +kernel
theorem dX3_leaves_74 : decode cX3_leaves 74 = .ok (.if_icmp .ge 37, 3) := by decide +kernel
theorem dX3_leaves_77 : decode cX3_leaves 77 = .ok (.aload_n 0, 1) := by decide +kernel
theorem dX3_leaves_78 : decode cX3_leaves 78 = .ok (.getfield 56, 3) := by decide +kernel
theorem dX3_leaves_81 : decode cX3_leaves 81 = .ok (.iload_n 1, 1) := by decide +kernel
theorem dX3_leaves_82 : decode cX3_leaves 82 = .ok (.aload_n 0, 1) := by decide +kernel
theorem dX3_leaves_83 : decode cX3_leaves 83 = .ok (.getfield 32, 3) := by decide +kernel
theorem dX3_leaves_86 : decode cX3_leaves 86 = .ok (.iload_n 1, 1) := by decide +kernel
theorem dX3_leaves_87 : decode cX3_leaves 87 = .ok (.baload, 1) := by decide +kernel
theorem dX3_leaves_88 : decode cX3_leaves 88 = .ok (.ifCond .eq 12, 3) := by decide +kernel
theorem dX3_leaves_91 : decode cX3_leaves 91 = .ok (.aload_n 0, 1) := by decide +kernel
theorem dX3_leaves_92 : decode cX3_leaves 92 = .ok (.getfield 56, 3) := by decide +kernel
theorem dX3_leaves_95 : decode cX3_leaves 95 = .ok (.iload_n 1, 1) := by decide +kernel
theorem dX3_leaves_96 : decode cX3_leaves 96 = .ok (.iaload, 1) := by decide +kernel
theorem dX3_leaves_97 : decode cX3_leaves 97 = .ok (.goto 7, 3) := by decide +kernel
theorem dX3_leaves_100 : decode cX3_leaves 100 = .ok (.aload_n 0, 1) := by decide +kernel
theorem dX3_leaves_101 : decode cX3_leaves 101 = .ok (.getfield 80, 3) := by decide +kernel
theorem dX3_leaves_104 : decode cX3_leaves 104 = .ok (.iastore, 1) := by decide +kernel
theorem dX3_leaves_105 : decode cX3_leaves 105 = .ok (.iinc 1 1, 3) := by decide +kernel
theorem dX3_leaves_108 : decode cX3_leaves 108 = .ok (.goto (-36), 3) := by decide +kernel
theorem dX3_leaves_111 : decode cX3_leaves 111 = .ok (.return_, 1) := by decide +kernel
theorem dX3_flush_0 : decode cX3_flush 0 = .ok (.aload_n 0, 1) := by decide +kernel
theorem dX3_flush_1 : decode cX3_flush 1 = .ok (.aload_n 0, 1) := by decide +kernel
theorem dX3_flush_2 : decode cX3_flush 2 = .ok (.invokevirtual 111, 3) := by decide +kernel
theorem dX3_flush_5 : decode cX3_flush 5 = .ok (.ifCond .eq 7, 3) := by decide +kernel
theorem dX3_flush_8 : decode cX3_flush 8 = .ok (.iconst 0, 1) := by decide +kernel
theorem dX3_flush_9 : decode cX3_flush 9 = .ok (.goto 4, 3) := by decide +kernel
theorem dX3_flush_12 : decode cX3_flush 12 = .ok (.iconst 1, 1) := by decide +kernel
theorem dX3_flush_13 : decode cX3_flush 13 = .ok (.putfield 62, 3) := by decide +kernel
theorem dX3_flush_16 : decode cX3_flush 16 = .ok (.aload_n 0, 1) := by decide +kernel
theorem dX3_flush_17 : decode cX3_flush 17 = .ok (.getfield 62, 3) := by decide +kernel
theorem dX3_flush_20 : decode cX3_flush 20 = .ok (.ifCond .le 5, 3) := by decide +kernel
theorem dX3_flush_23 : decode cX3_flush 23 = .ok (.iconst 0, 1) := by decide +kernel
theorem dX3_flush_24 : decode cX3_flush 24 = .ok (.ireturn, 1) := by decide +kernel
theorem dX3_flush_25 : decode cX3_flush 25 = .ok (.iconst 0, 1) := by decide +kernel
theorem dX3_flush_26 : decode cX3_flush 26 = .ok (.istore_n 1, 1) := by decide +kernel
theorem dX3_flush_27 : decode cX3_flush 27 = .ok (.iconst 0, 1) := by decide +kernel
theorem dX3_flush_28 : decode cX3_flush 28 = .ok (.istore_n 2, 1) := by decide +kernel
theorem dX3_flush_29 : decode cX3_flush 29 = .ok (.iload_n 2, 1) := by decide +kernel
theorem dX3_flush_30 : decode cX3_flush 30 = .ok (.aload_n 0, 1) := by decide +kernel
theorem dX3_flush_31 : decode cX3_flush 31 = .ok (.getfield 70, 3) := by decide +kernel
theorem dX3_flush_34 : decode cX3_flush 34 = .ok (.if_icmp .ge 34, 3) := by decide +kernel
theorem dX3_flush_37 : decode cX3_flush 37 = .ok (.aload_n 0, 1) := by decide +kernel
theorem dX3_flush_38 : decode cX3_flush 38 = .ok (.getfield 22, 3) := by decide +kernel
theorem dX3_flush_41 : decode cX3_flush 41 = .ok (.iload_n 2, 1) := by decide +kernel
theorem dX3_flush_42 : decode cX3_flush 42 = .ok (.baload, 1) := by decide +kernel
theorem dX3_flush_43 : decode cX3_flush 43 = .ok (.ifCond .ne 19, 3) := by decide +kernel
theorem dX3_flush_46 : decode cX3_flush 46 = .ok (.aload_n 0, 1) := by decide +kernel
theorem dX3_flush_47 : decode cX3_flush 47 = .ok (.iload_n 2, 1) := by decide +kernel
theorem dX3_flush_48 : decode cX3_flush 48 = .ok (.invokevirtual 159, 3) := by decide +kernel
theorem dX3_flush_51 : decode cX3_flush 51 = .ok (.ifCond .ne 11, 3) := by decide +kernel
theorem dX3_flush_54 : decode cX3_flush 54 = .ok (.aload_n 0, 1) := by decide +kernel
theorem dX3_flush_55 : decode cX3_flush 55 = .ok (.iload_n 2, 1) := by decide +kernel
theorem dX3_flush_56 : decode cX3_flush 56 = .ok (.invokevirtual 162, 3) := by decide +kernel
theorem dX3_flush_59 : decode cX3_flush 59 = .ok (.iinc 1 1, 3) := by decide +kernel
theorem dX3_flush_62 : decode cX3_flush 62 = .ok (.iinc 2 1, 3) := by decide +kernel
theorem dX3_flush_65 : decode cX3_flush 65 = .ok (.goto (-36), 3) := by decide +kernel
theorem dX3_flush_68 : decode cX3_flush 68 = .ok (.iconst 0, 1) := by decide +kernel
theorem dX3_flush_69 : decode cX3_flush 69 = .ok (.istore_n 2, 1) := by decide +kernel
theorem dX3_flush_70 : decode cX3_flush 70 = .ok (.iload_n 2, 1) := by decide +kernel
theorem dX3_flush_71 : decode cX3_flush 71 = .ok (.iconst 4, 1) := by decide +kernel
theorem dX3_flush_72 : decode cX3_flush 72 = .ok (.if_icmp .ge 68, 3) := by decide +kernel
theorem dX3_flush_75 : decode cX3_flush 75 = .ok (.iconst 0, 1) := by decide +kernel
theorem dX3_flush_76 : decode cX3_flush 76 = .ok (.istore_n 3, 1) := by decide +kernel
theorem dX3_flush_77 : decode cX3_flush 77 = .ok (.iload_n 3, 1) := by decide +kernel
theorem dX3_flush_78 : decode cX3_flush 78 = .ok (.aload_n 0, 1) := by decide +kernel
theorem dX3_flush_79 : decode cX3_flush 79 = .ok (.getfield 70, 3) := by decide +kernel
theorem dX3_flush_82 : decode cX3_flush 82 = .ok (.if_icmp .ge 52, 3) := by decide +kernel
theorem dX3_flush_85 : decode cX3_flush 85 = .ok (.aload_n 0, 1) := by decide +kernel
theorem dX3_flush_86 : decode cX3_flush 86 = .ok (.getfield 32, 3) := by decide +kernel
theorem dX3_flush_89 : decode cX3_flush 89 = .ok (.iload_n 2, 1) := by decide +kernel
theorem dX3_flush_90 : decode cX3_flush 90 = .ok (.baload, 1) := by decide +kernel
theorem dX3_flush_91 : decode cX3_flush 91 = .ok (.ifCond .ne 43, 3) := by decide +kernel
theorem dX3_flush_94 : decode cX3_flush 94 = .ok (.aload_n 0, 1) := by decide +kernel
theorem dX3_flush_95 : decode cX3_flush 95 = .ok (.getfield 13, 3) := by decide +kernel
theorem dX3_flush_98 : decode cX3_flush 98 = .ok (.iconst 4, 1) := by decide +kernel
theorem dX3_flush_99 : decode cX3_flush 99 = .ok (.iload_n 3, 1) := by decide +kernel
theorem dX3_flush_100 : decode cX3_flush 100 = .ok (.imul, 1) := by decide +kernel
theorem dX3_flush_101 : decode cX3_flush 101 = .ok (.iload_n 2, 1) := by decide +kernel
theorem dX3_flush_102 : decode cX3_flush 102 = .ok (.iadd, 1) := by decide +kernel
theorem dX3_flush_103 : decode cX3_flush 103 = .ok (.iaload, 1) := by decide +kernel
theorem dX3_flush_104 : decode cX3_flush 104 = .ok (.ifCond .eq 17, 3) := by decide +kernel
theorem dX3_flush_107 : decode cX3_flush 107 = .ok (.aload_n 0, 1) := by decide +kernel
theorem dX3_flush_108 : decode cX3_flush 108 = .ok (.getfield 13, 3) := by decide +kernel
theorem dX3_flush_111 : decode cX3_flush 111 = .ok (.iconst 4, 1) := by decide +kernel
theorem dX3_flush_112 : decode cX3_flush 112 = .ok (.iload_n 3, 1) := by decide +kernel
theorem dX3_flush_113 : decode cX3_flush 113 = .ok (.imul, 1) := by decide +kernel
theorem dX3_flush_114 : decode cX3_flush 114 = .ok (.iload_n 2, 1) := by decide +kernel
theorem dX3_flush_115 : decode cX3_flush 115 = .ok (.iadd, 1) := by decide +kernel
theorem dX3_flush_116 : decode cX3_flush 116 = .ok (.iaload, 1) := by decide +kernel
theorem dX3_flush_117 : decode cX3_flush 117 = .ok (.iconst 3, 1) := by decide +kernel
theorem dX3_flush_118 : decode cX3_flush 118 = .ok (.if_icmp .ne 10, 3) := by decide +kernel
theorem dX3_flush_121 : decode cX3_flush 121 = .ok (.aload_n 0, 1) := by decide +kernel
theorem dX3_flush_122 : decode cX3_flush 122 = .ok (.iload_n 3, 1) := by decide +kernel
theorem dX3_flush_123 : decode cX3_flush 123 = .ok (.iload_n 2, 1) := by decide +kernel
theorem dX3_flush_124 : decode cX3_flush 124 = .ok (.invokevirtual 121, 3) := by decide +kernel
theorem dX3_flush_127 : decode cX3_flush 127 = .ok (.pop, 1) := by decide +kernel
theorem dX3_flush_128 : decode cX3_flush 128 = .ok (.iinc 3 1, 3) := by decide +kernel
theorem dX3_flush_131 : decode cX3_flush 131 = .ok (.goto (-54), 3) := by decide +kernel
theorem dX3_flush_134 : decode cX3_flush 134 = .ok (.iinc 2 1, 3) := by decide +kernel
theorem dX3_flush_137 : decode cX3_flush 137 = .ok (.goto (-67), 3) := by decide +kernel
theorem dX3_flush_140 : decode cX3_flush 140 = .ok (.aload_n 0, 1) := by decide +kernel
theorem dX3_flush_141 : decode cX3_flush 141 = .ok (.invokevirtual 165, 3) := by decide +kernel
theorem dX3_flush_144 : decode cX3_flush 144 = .ok (.aload_n 0, 1) := by decide +kernel
theorem dX3_flush_145 : decode cX3_flush 145 = .ok (.invokevirtual 168, 3) := by decide +kernel
theorem dX3_flush_148 : decode cX3_flush 148 = .ok (.istore_n 2, 1) := by decide +kernel
theorem dX3_flush_149 : decode cX3_flush 149 = .ok (.iload_n 2, 1) := by decide +kernel
theorem dX3_flush_150 : decode cX3_flush 150 = .ok (.iconst (-1), 1) := by decide +kernel
theorem dX3_flush_151 : decode cX3_flush 151 = .ok (.if_icmp .eq 22, 3) := by decide +kernel
theorem dX3_flush_154 : decode cX3_flush 154 = .ok (.aload_n 0, 1) := by decide +kernel
theorem dX3_flush_155 : decode cX3_flush 155 = .ok (.iload_n 2, 1) := by decide +kernel
theorem dX3_flush_156 : decode cX3_flush 156 = .ok (.aload_n 0, 1) := by decide +kernel
theorem dX3_flush_157 : decode cX3_flush 157 = .ok (.getfield 105, 3) := by decide +kernel
theorem dX3_flush_160 : decode cX3_flush 160 = .ok (.iconst 1, 1) := by decide +kernel
theorem dX3_flush_161 : decode cX3_flush 161 = .ok (.iadd, 1) := by decide +kernel
theorem dX3_flush_162 : decode cX3_flush 162 = .ok (.invokevirtual 108, 3) := by decide +kernel
theorem dX3_flush_165 : decode cX3_flush 165 = .ok (.aload_n 0, 1) := by decide +kernel
theorem dX3_flush_166 : decode cX3_flush 166 = .ok (.invokevirtual 168, 3) := by decide +kernel
theorem dX3_flush_169 : decode cX3_flush 169 = .ok (.istore_n 2, 1) := by decide +kernel
theorem dX3_flush_170 : decode cX3_flush 170 = .ok (.goto (-21), 3) := by decide +kernel
theorem dX3_flush_173 : decode cX3_flush 173 = .ok (.iload_n 1, 1) := by decide +kernel
theorem dX3_flush_174 : decode cX3_flush 174 = .ok (.ireturn, 1) := by decide +kernel
theorem dX3_isAlive_0 : decode cX3_isAlive 0 = .ok (.aload_n 0, 1) := by decide +kernel
theorem dX3_isAlive_1 : decode cX3_isAlive 1 = .ok (.iload_n 1, 1) := by decide +kernel
theorem dX3_isAlive_2 : decode cX3_isAlive 2 = .ok (.invokestatic 77, 3) := by decide +kernel
theorem dX3_isAlive_5 : decode cX3_isAlive 5 = .ok (.ifCond .eq 7, 3) := by decide +kernel
theorem dX3_isAlive_8 : decode cX3_isAlive 8 = .ok (.iconst 0, 1) := by decide +kernel
theorem dX3_isAlive_9 : decode cX3_isAlive 9 = .ok (.goto 4, 3) := by decide +kernel
theorem dX3_isAlive_12 : decode cX3_isAlive 12 = .ok (.iconst 1, 1) := by decide +kernel
theorem dX3_isAlive_13 : decode cX3_isAlive 13 = .ok (.putfield 62, 3) := by decide +kernel
theorem dX3_isAlive_16 : decode cX3_isAlive 16 = .ok (.aload_n 0, 1) := by decide +kernel
theorem dX3_isAlive_17 : decode cX3_isAlive 17 = .ok (.getfield 62, 3) := by decide +kernel
theorem dX3_isAlive_20 : decode cX3_isAlive 20 = .ok (.ifCond .ne 16, 3) := by decide +kernel
theorem dX3_isAlive_23 : decode cX3_isAlive 23 = .ok (.aload_n 0, 1) := by decide +kernel
theorem dX3_isAlive_24 : decode cX3_isAlive 24 = .ok (.getfield 32, 3) := by decide +kernel
theorem dX3_isAlive_27 : decode cX3_isAlive 27 = .ok (.iload_n 1, 1) := by decide +kernel
theorem dX3_isAlive_28 : decode cX3_isAlive 28 = .ok (.baload, 1) := by decide +kernel
theorem dX3_isAlive_29 : decode cX3_isAlive 29 = .ok (.ifCond .ne 7, 3) := by decide +kernel
theorem dX3_isAlive_32 : decode cX3_isAlive 32 = .ok (.iconst 1, 1) := by decide +kernel
theorem dX3_isAlive_33 : decode cX3_isAlive 33 = .ok (.goto 4, 3) := by decide +kernel
theorem dX3_isAlive_36 : decode cX3_isAlive 36 = .ok (.iconst 0, 1) := by decide +kernel
theorem dX3_isAlive_37 : decode cX3_isAlive 37 = .ok (.ireturn, 1) := by decide +kernel
theorem dX3_view_0 : decode cX3_view 0 = .ok (.aload_n 0, 1) := by decide +kernel
theorem dX3_view_1 : decode cX3_view 1 = .ok (.iconst 0, 1) := by decide +kernel
theorem dX3_view_2 : decode cX3_view 2 = .ok (.putfield 62, 3) := by decide +kernel
theorem dX3_view_5 : decode cX3_view 5 = .ok (.aload_n 0, 1) := by decide +kernel
theorem dX3_view_6 : decode cX3_view 6 = .ok (.getfield 156, 3) := by decide +kernel
theorem dX3_view_9 : decode cX3_view 9 = .ok (.ireturn, 1) := by decide +kernel
