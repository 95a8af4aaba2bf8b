theorem dX12_init_0 : decode cX12_init 0 = .ok (.aload_n 0, 1) := by decide +kernel
theorem dX12_init_1 : decode cX12_init 1 = .ok (.invokespecial 1, 3) := by decide +kernel
theorem dX12_init_4 : decode cX12_init 4 = .ok (.aload_n 0, 1) := by decide +kernel
theorem dX12_init_5 : decode cX12_init 5 = .ok (.iconst 2, 1) := by decide +kernel
theorem dX12_init_6 : decode cX12_init 6 = .ok (.putfield 7, 3) := by decide +kernel
theorem dX12_init_9 : decode cX12_init 9 = .ok (.aload_n 0, 1) := by decide +kernel
theorem dX12_init_10 : decode cX12_init 10 = .ok (.bipush 99, 2) := by decide +kernel
theorem dX12_init_12 : decode cX12_init 12 = .ok (.putfield 13, 3) := by decide +kernel
theorem dX12_init_15 : decode cX12_init 15 = .ok (.aload_n 0, 1) := by decide +kernel
theorem dX12_init_16 : decode cX12_init 16 = .ok (.bipush 60, 2) := by decide +kernel
theorem dX12_init_18 : decode cX12_init 18 = .ok (.putfield 16, 3) := by decide +kernel
theorem dX12_init_21 : decode cX12_init 21 = .ok (.aload_n 0, 1) := by decide +kernel
theorem dX12_init_22 : decode cX12_init 22 = .ok (.sipush 622, 3) := by decide +kernel
theorem dX12_init_25 : decode cX12_init 25 = .ok (.newarray .int, 2) := by decide +kernel
theorem dX12_init_27 : decode cX12_init 27 = .ok (.putfield 19, 3) := by decide +kernel
theorem dX12_init_30 : decode cX12_init 30 = .ok (.aload_n 0, 1) := by decide +kernel
theorem dX12_init_31 : decode cX12_init 31 = .ok (.sipush 4976, 3) := by decide +kernel
theorem dX12_init_34 : decode cX12_init 34 = .ok (.newarray .int, 2) := by decide +kernel
theorem dX12_init_36 : decode cX12_init 36 = .ok (.putfield 23, 3) := by decide +kernel
theorem dX12_init_39 : decode cX12_init 39 = .ok (.aload_n 0, 1) := by decide +kernel
theorem dX12_init_40 : decode cX12_init 40 = .ok (.iconst 2, 1) := by decide +kernel
theorem dX12_init_41 : decode cX12_init 41 = .ok (.newarray .boolean, 2) := by decide +kernel
theorem dX12_init_43 : decode cX12_init 43 = .ok (.putfield 26, 3) := by decide +kernel
theorem dX12_init_46 : decode cX12_init 46 = .ok (.aload_n 0, 1) := by decide +kernel
theorem dX12_init_47 : decode cX12_init 47 = .ok (.sipush 1244, 3) := by decide +kernel
theorem dX12_init_50 : decode cX12_init 50 = .ok (.newarray .int, 2) := by decide +kernel
theorem dX12_init_52 : decode cX12_init 52 = .ok (.putfield 30, 3) := by decide +kernel
theorem dX12_init_55 : decode cX12_init 55 = .ok (.aload_n 0, 1) := by decide +kernel
theorem dX12_init_56 : decode cX12_init 56 = .ok (.bipush 120, 2) := by decide +kernel
theorem dX12_init_58 : decode cX12_init 58 = .ok (.newarray .int, 2) := by decide +kernel
theorem dX12_init_60 : decode cX12_init 60 = .ok (.putfield 33, 3) := by decide +kernel
theorem dX12_init_63 : decode cX12_init 63 = .ok (.aload_n 0, 1) := by decide +kernel
theorem dX12_init_64 : decode cX12_init 64 = .ok (.bipush 36, 2) := by decide +kernel
theorem dX12_init_66 : decode cX12_init 66 = .ok (.newarray .int, 2) := by decide +kernel
theorem dX12_init_68 : decode cX12_init 68 = .ok (.putfield 36, 3) := by decide +kernel
theorem dX12_init_71 : decode cX12_init 71 = .ok (.aload_n 0, 1) := by decide +kernel
theorem dX12_init_72 : decode cX12_init 72 = .ok (.bipush 6, 2) := by decide +kernel
theorem dX12_init_74 : decode cX12_init 74 = .ok (.newarray .int, 2) := by decide +kernel
theorem dX12_init_76 : decode cX12_init 76 = .ok (.putfield 39, 3) := by decide +kernel
theorem dX12_init_79 : decode cX12_init 79 = .ok (.aload_n 0, 1) := by decide +kernel
theorem dX12_init_80 : decode cX12_init 80 = .ok (.bipush 36, 2) := by decide +kernel
theorem dX12_init_82 : decode cX12_init 82 = .ok (.newarray .int, 2) := by decide +kernel
theorem dX12_init_84 : decode cX12_init 84 = .ok (.putfield 42, 3) := by decide +kernel
theorem dX12_init_87 : decode cX12_init 87 = .ok (.aload_n 0, 1) := by decide +kernel
theorem dX12_init_88 : decode cX12_init 88 = .ok (.bipush 6, 2) := by decide +kernel
theorem dX12_init_90 : decode cX12_init 90 = .ok (.newarray .int, 2) := by decide +kernel
theorem dX12_init_92 : decode cX12_init 92 = .ok (.putfield 45, 3) := by decide +kernel
theorem dX12_init_95 : decode cX12_init 95 = .ok (.aload_n 0, 1) := by decide +kernel
theorem dX12_init_96 : decode cX12_init 96 = .ok (.bipush 6, 2) := by decide +kernel
theorem dX12_init_98 : decode cX12_init 98 = .ok (.newarray .int, 2) := by decide +kernel
theorem dX12_init_100 : decode cX12_init 100 = .ok (.putfield 48, 3) := by decide +kernel
theorem dX12_init_103 : decode cX12_init 103 = .ok (.aload_n 0, 1) := by decide +kernel
theorem dX12_init_104 : decode cX12_init 104 = .ok (.bipush 6, 2) := by decide +kernel
theorem dX12_init_106 : decode cX12_init 106 = .ok (.newarray .int, 2) := by decide +kernel
theorem dX12_init_108 : decode cX12_init 108 = .ok (.putfield 51, 3) := by decide +kernel
theorem dX12_init_111 : decode cX12_init 111 = .ok (.aload_n 0, 1) := by decide +kernel
theorem dX12_init_112 : decode cX12_init 112 = .ok (.getfield 19, 3) := by decide +kernel
theorem dX12_init_115 : decode cX12_init 115 = .ok (.invokestatic 54, 3) := by decide +kernel
theorem dX12_init_118 : decode cX12_init 118 = .ok (.return_, 1) := by decide +kernel
theorem dX12_in_0 : decode cX12_in 0 = .ok (.iload_n 0, 1) := by decide +kernel
theorem dX12_in_1 : decode cX12_in 1 = .ok (.iload_n 1, 1) := by decide +kernel
theorem dX12_in_2 : decode cX12_in 2 = .ok (.if_icmp .lt 12, 3) := by decide +kernel
theorem dX12_in_5 : decode cX12_in 5 = .ok (.iload_n 0, 1) := by decide +kernel
theorem dX12_in_6 : decode cX12_in 6 = .ok (.iload_n 2, 1) := by decide +kernel
theorem dX12_in_7 : decode cX12_in 7 = .ok (.if_icmp .gt 7, 3) := by decide +kernel
theorem dX12_in_10 : decode cX12_in 10 = .ok (.iconst 1, 1) := by decide +kernel
theorem dX12_in_11 : decode cX12_in 11 = .ok (.goto 4, 3) := by decide +kernel
theorem dX12_in_14 : decode cX12_in 14 = .ok (.iconst 0, 1) := by decide +kernel
theorem dX12_in_15 : decode cX12_in 15 = .ok (.ireturn, 1) := by decide +kernel
theorem dX12_has_0 : decode cX12_has 0 = .ok (.iload_n 0, 1) := by decide +kernel
theorem dX12_has_1 : decode cX12_has 1 = .ok (.iload_n 1, 1) := by decide +kernel
theorem dX12_has_2 : decode cX12_has 2 = .ok (.ishr, 1) := by decide +kernel
theorem dX12_has_3 : decode cX12_has 3 = .ok (.iconst 1, 1) := by decide +kernel
theorem dX12_has_4 : decode cX12_has 4 = .ok (.iand, 1) := by decide +kernel
theorem dX12_has_5 : decode cX12_has 5 = .ok (.iconst 1, 1) := by decide +kernel
theorem dX12_has_6 : decode cX12_has 6 = .ok (.if_icmp .ne 7, 3) := by decide +kernel
theorem dX12_has_9 : decode cX12_has 9 = .ok (.iconst 1, 1) := by decide +kernel
theorem dX12_has_10 : decode cX12_has 10 = .ok (.goto 4, 3) := by decide +kernel
theorem dX12_has_13 : decode cX12_has 13 = .ok (.iconst 0, 1) := by decide +kernel
theorem dX12_has_14 : decode cX12_has 14 = .ok (.ireturn, 1) := by decide +kernel
theorem dX12_begins_0 : decode cX12_begins 0 = .ok (.iconst 0, 1) := by decide +kernel
theorem dX12_begins_1 : decode cX12_begins 1 = .ok (.istore_n 1, 1) := by decide +kernel
theorem dX12_begins_2 : decode cX12_begins 2 = .ok (.iload_n 1, 1) := by decide +kernel
theorem dX12_begins_3 : decode cX12_begins 3 = .ok (.sipush 622, 3) := by decide +kernel
theorem dX12_begins_6 : decode cX12_begins 6 = .ok (.if_icmp .ge 24, 3) := by decide +kernel
theorem dX12_begins_9 : decode cX12_begins 9 = .ok (.aload_n 0, 1) := by decide +kernel
theorem dX12_begins_10 : decode cX12_begins 10 = .ok (.iload_n 1, 1) := by decide +kernel
theorem dX12_begins_11 : decode cX12_begins 11 = .ok (.iload_n 1, 1) := by decide +kernel
theorem dX12_begins_12 : decode cX12_begins 12 = .ok (.sipush 406, 3) := by decide +kernel
theorem dX12_begins_15 : decode cX12_begins 15 = .ok (.if_icmp .ge 7, 3) := by decide +kernel
theorem dX12_begins_18 : decode cX12_begins 18 = .ok (.iconst 0, 1) := by decide +kernel
theorem dX12_begins_19 : decode cX12_begins 19 = .ok (.goto 4, 3) := by decide +kernel
theorem dX12_begins_22 : decode cX12_begins 22 = .ok (.iconst (-1), 1) := by decide +kernel
theorem dX12_begins_23 : decode cX12_begins 23 = .ok (.iastore, 1) := by decide +kernel
theorem dX12_begins_24 : decode cX12_begins 24 = .ok (.iinc 1 1, 3) := by decide +kernel
theorem dX12_begins_27 : decode cX12_begins 27 = .ok (.goto (-25), 3) := by decide +kernel
theorem dX12_begins_30 : decode cX12_begins 30 = .ok (.aload_n 0, 1) := by decide +kernel
theorem dX12_begins_31 : decode cX12_begins 31 = .ok (.iconst 1, 1) := by decide +kernel
theorem dX12_begins_32 : decode cX12_begins 32 = .ok (.iconst (-1), 1) := by decide +kernel
theorem dX12_begins_33 : decode cX12_begins 33 = .ok (.iastore, 1) := by decide +kernel
theorem dX12_begins_34 : decode cX12_begins 34 = .ok (.return_, 1) := by decide +kernel
theorem dX12_isNode_0 : decode cX12_isNode 0 = .ok (.iload_n 1, 1) := by decide +kernel
theorem dX12_isNode_1 : decode cX12_isNode 1 = .ok (.iconst 0, 1) := by decide +kernel
theorem dX12_isNode_2 : decode cX12_isNode 2 = .ok (.aload_n 0, 1) := by decide +kernel
theorem dX12_isNode_3 : decode cX12_isNode 3 = .ok (.getfield 7, 3) := by decide +kernel
theorem dX12_isNode_6 : decode cX12_isNode 6 = .ok (.iconst 1, 1) := by decide +kernel
theorem dX12_isNode_7 : decode cX12_isNode 7 = .ok (.isub, 1) := by decide +kernel
theorem dX12_isNode_8 : decode cX12_isNode 8 = .ok (.invokestatic 58, 3) := by decide +kernel
theorem dX12_isNode_11 : decode cX12_isNode 11 = .ok (.ireturn, 1) := by decide +kernel
theorem dX12_pair_0 : decode cX12_pair 0 = .ok (.iload_n 0, 1) := by decide +kernel
theorem dX12_pair_1 : decode cX12_pair 1 = .ok (.iload_n 1, 1) := by decide +kernel
theorem dX12_pair_2 : decode cX12_pair 2 = .ok (.if_icmp .ge 12, 3) := by decide +kernel
theorem dX12_pair_5 : decode cX12_pair 5 = .ok (.bipush 6, 2) := by decide +kernel
theorem dX12_pair_7 : decode cX12_pair 7 = .ok (.iload_n 0, 1) := by decide +kernel
theorem dX12_pair_8 : decode cX12_pair 8 = .ok (.imul, 1) := by decide +kernel
theorem dX12_pair_9 : decode cX12_pair 9 = .ok (.iload_n 1, 1) := by decide +kernel
theorem dX12_pair_10 : decode cX12_pair 10 = .ok (.iadd, 1) := by decide +kernel
theorem dX12_pair_11 : decode cX12_pair 11 = .ok (.goto 9, 3) := by decide +kernel
theorem dX12_pair_14 : decode cX12_pair 14 = .ok (.bipush 6, 2) := by decide +kernel
theorem dX12_pair_16 : decode cX12_pair 16 = .ok (.iload_n 1, 1) := by decide +kernel
theorem dX12_pair_17 : decode cX12_pair 17 = .ok (.imul, 1) := by decide +kernel
theorem dX12_pair_18 : decode cX12_pair 18 = .ok (.iload_n 0, 1) := by decide +kernel
theorem dX12_pair_19 : decode cX12_pair 19 = .ok (.iadd, 1) := by decide +kernel
theorem dX12_pair_20 : decode cX12_pair 20 = .ok (.ireturn, 1) := by decide +kernel
theorem dX12_delay_0 : decode cX12_delay 0 = .ok (.iload_n 1, 1) := by decide +kernel
theorem dX12_delay_1 : decode cX12_delay 1 = .ok (.iload_n 2, 1) := by decide +kernel
theorem dX12_delay_2 : decode cX12_delay 2 = .ok (.if_icmp .ne 7, 3) := by decide +kernel
theorem dX12_delay_5 : decode cX12_delay 5 = .ok (.iconst 0, 1) := by decide +kernel
theorem dX12_delay_6 : decode cX12_delay 6 = .ok (.goto 16, 3) := by decide +kernel
theorem dX12_delay_9 : decode cX12_delay 9 = .ok (.aload_n 0, 1) := by decide +kernel
theorem dX12_delay_10 : decode cX12_delay 10 = .ok (.getfield 19, 3) := by decide +kernel
theorem dX12_delay_13 : decode cX12_delay 13 = .ok (.bipush 118, 2) := by decide +kernel
theorem dX12_delay_15 : decode cX12_delay 15 = .ok (.iload_n 1, 1) := by decide +kernel
theorem dX12_delay_16 : decode cX12_delay 16 = .ok (.iload_n 2, 1) := by decide +kernel
theorem dX12_delay_17 : decode cX12_delay 17 = .ok (.invokestatic 62, 3) := by decide +kernel
theorem dX12_delay_20 : decode cX12_delay 20 = .ok (.iadd, 1) := by decide +kernel
theorem dX12_delay_21 : decode cX12_delay 21 = .ok (.iaload, 1) := by decide +kernel
theorem dX12_delay_22 : decode cX12_delay 22 = .ok (.ireturn, 1) := by decide +kernel
theorem dX12_guessAt_0 : decode cX12_guessAt 0 = .ok (.bipush 36, 2) := by decide +kernel
theorem dX12_guessAt_2 : decode cX12_guessAt 2 = .ok (.iload_n 0, 1) := by decide +kernel
theorem dX12_guessAt_3 : decode cX12_guessAt 3 = .ok (.imul, 1) := by decide +kernel
theorem dX12_guessAt_4 : decode cX12_guessAt 4 = .ok (.bipush 6, 2) := by decide +kernel
theorem dX12_guessAt_6 : decode cX12_guessAt 6 = .ok (.iload_n 1, 1) := by decide +kernel
theorem dX12_guessAt_7 : decode cX12_guessAt 7 = .ok (.imul, 1) := by decide +kernel
theorem dX12_guessAt_8 : decode cX12_guessAt 8 = .ok (.iadd, 1) := by decide +kernel
theorem dX12_guessAt_9 : decode cX12_guessAt 9 = .ok (.iload_n 2, 1) := by decide +kernel
theorem dX12_guessAt_10 : decode cX12_guessAt 10 = .ok (.iadd, 1) := by decide +kernel
theorem dX12_guessAt_11 : decode cX12_guessAt 11 = .ok (.ireturn, 1) := by decide +kernel
theorem dX12_linkMany_0 : decode cX12_linkMany 0 = .ok (.iconst 0, 1) := by decide +kernel
theorem dX12_linkMany_1 : decode cX12_linkMany 1 = .ok (.istore_n 1, 1) := by decide +kernel
theorem dX12_linkMany_2 : decode cX12_linkMany 2 = .ok (.iconst 0, 1) := by decide +kernel
theorem dX12_linkMany_3 : decode cX12_linkMany 3 = .ok (.istore_n 2, 1) := by decide +kernel
theorem dX12_linkMany_4 : decode cX12_linkMany 4 = .ok (.iload_n 2, 1) := by decide +kernel
theorem dX12_linkMany_5 : decode cX12_linkMany 5 = .ok (.bipush 36, 2) := by decide +kernel
theorem dX12_linkMany_7 : decode cX12_linkMany 7 = .ok (.if_icmp .ge 29, 3) := by decide +kernel
theorem dX12_linkMany_10 : decode cX12_linkMany 10 = .ok (.iload_n 1, 1) := by decide +kernel
theorem dX12_linkMany_11 : decode cX12_linkMany 11 = .ok (.aload_n 0, 1) := by decide +kernel
theorem dX12_linkMany_12 : decode cX12_linkMany 12 = .ok (.getfield 19, 3) := by decide +kernel
theorem dX12_linkMany_15 : decode cX12_linkMany 15 = .ok (.bipush 118, 2) := by decide +kernel
theorem dX12_linkMany_17 : decode cX12_linkMany 17 = .ok (.iload_n 2, 1) := by decide +kernel
theorem dX12_linkMany_18 : decode cX12_linkMany 18 = .ok (.iadd, 1) := by decide +kernel
theorem dX12_linkMany_19 : decode cX12_linkMany 19 = .ok (.iaload, 1) := by decide +kernel
theorem dX12_linkMany_20 : decode cX12_linkMany 20 = .ok (.ifCond .le 7, 3) := by decide +kernel
theorem dX12_linkMany_23 : decode cX12_linkMany 23 = .ok (.iconst 1, 1) := by decide +kernel
theorem dX12_linkMany_24 : decode cX12_linkMany 24 = .ok (.goto 4, 3) := by decide +kernel
theorem dX12_linkMany_27 : decode cX12_linkMany 27 = .ok (.iconst 0, 1) := by decide +kernel
theorem dX12_linkMany_28 : decode cX12_linkMany 28 = .ok (.iadd, 1) := by decide +kernel
theorem dX12_linkMany_29 : decode cX12_linkMany 29 = .ok (.istore_n 1, 1) := by decide +kernel
theorem dX12_linkMany_30 : decode cX12_linkMany 30 = .ok (.iinc 2 1, 3) := by decide +kernel
theorem dX12_linkMany_33 : decode cX12_linkMany 33 = .ok (.goto (-29), 3) := by decide +kernel
theorem dX12_linkMany_36 : decode cX12_linkMany 36 = .ok (.iload_n 1, 1) := by decide +kernel
theorem dX12_linkMany_37 : decode cX12_linkMany 37 = .ok (.ireturn, 1) := by decide +kernel
theorem dX12_pairOf_0 : decode cX12_pairOf 0 = .ok (.iload_n 1, 1) := by decide +kernel
theorem dX12_pairOf_1 : decode cX12_pairOf 1 = .ok (.istore_n 2, 1) := by decide +kernel
theorem dX12_pairOf_2 : decode cX12_pairOf 2 = .ok (.iconst 0, 1) := by decide +kernel
theorem dX12_pairOf_3 : decode cX12_pairOf 3 = .ok (.istore_n 3, 1) := by decide +kernel
theorem dX12_pairOf_4 : decode cX12_pairOf 4 = .ok (.iload_n 3, 1) := by decide +kernel
theorem dX12_pairOf_5 : decode cX12_pairOf 5 = .ok (.bipush 36, 2) := by decide +kernel
theorem dX12_pairOf_7 : decode cX12_pairOf 7 = .ok (.if_icmp .ge 34, 3) := by decide +kernel
theorem dX12_pairOf_10 : decode cX12_pairOf 10 = .ok (.iload_n 1, 1) := by decide +kernel
theorem dX12_pairOf_11 : decode cX12_pairOf 11 = .ok (.ifCond .lt 30, 3) := by decide +kernel
theorem dX12_pairOf_14 : decode cX12_pairOf 14 = .ok (.aload_n 0, 1) := by decide +kernel
theorem dX12_pairOf_15 : decode cX12_pairOf 15 = .ok (.getfield 19, 3) := by decide +kernel
theorem dX12_pairOf_18 : decode cX12_pairOf 18 = .ok (.bipush 118, 2) := by decide +kernel
theorem dX12_pairOf_20 : decode cX12_pairOf 20 = .ok (.iload_n 3, 1) := by decide +kernel
theorem dX12_pairOf_21 : decode cX12_pairOf 21 = .ok (.iadd, 1) := by decide +kernel
theorem dX12_pairOf_22 : decode cX12_pairOf 22 = .ok (.iaload, 1) := by decide +kernel
theorem dX12_pairOf_23 : decode cX12_pairOf 23 = .ok (.ifCond .le 12, 3) := by decide +kernel
theorem dX12_pairOf_26 : decode cX12_pairOf 26 = .ok (.iload_n 2, 1) := by decide +kernel
theorem dX12_pairOf_27 : decode cX12_pairOf 27 = .ok (.ifCond .ne 5, 3) := by decide +kernel
theorem dX12_pairOf_30 : decode cX12_pairOf 30 = .ok (.iload_n 3, 1) := by decide +kernel
theorem dX12_pairOf_31 : decode cX12_pairOf 31 = .ok (.ireturn, 1) := by decide +kernel
theorem dX12_pairOf_32 : decode cX12_pairOf 32 = .ok (.iinc 2 (-1), 3) := by decide +kernel
theorem dX12_pairOf_35 : decode cX12_pairOf 35 = .ok (.iinc 3 1, 3) := by decide +kernel
theorem dX12_pairOf_38 : decode cX12_pairOf 38 = .ok (.goto (-34), 3) := by decide +kernel
theorem dX12_pairOf_41 : decode cX12_pairOf 41 = .ok (.bipush (-9), 2) := by decide +kernel
theorem dX12_pairOf_43 : decode cX12_pairOf 43 = .ok (.ireturn, 1) := by decide +kernel
theorem dX12_type_0 : decode cX12_type 0 = .ok (.iload_n 1, 1) := by decide +kernel
theorem dX12_type_1 : decode cX12_type 1 = .ok (.iconst 0, 1) := by decide +kernel
theorem dX12_type_2 : decode cX12_type 2 = .ok (.sipush 255, 3) := by decide +kernel
theorem dX12_type_5 : decode cX12_type 5 = .ok (.invokestatic 58, 3) := by decide +kernel
theorem dX12_type_8 : decode cX12_type 8 = .ok (.ifCond .ne 5, 3) := by decide +kernel
theorem dX12_type_11 : decode cX12_type 11 = .ok (.iconst (-1), 1) := by decide +kernel
theorem dX12_type_12 : decode cX12_type 12 = .ok (.ireturn, 1) := by decide +kernel
theorem dX12_type_13 : decode cX12_type 13 = .ok (.aload_n 0, 1) := by decide +kernel
theorem dX12_type_14 : decode cX12_type 14 = .ok (.getfield 66, 3) := by decide +kernel
theorem dX12_type_17 : decode cX12_type 17 = .ok (.bipush 120, 2) := by decide +kernel
theorem dX12_type_19 : decode cX12_type 19 = .ok (.if_icmp .ne 6, 3) := by decide +kernel
theorem dX12_type_22 : decode cX12_type 22 = .ok (.bipush (-3), 2) := by decide +kernel
theorem dX12_type_24 : decode cX12_type 24 = .ok (.ireturn, 1) := by decide +kernel
theorem dX12_type_25 : decode cX12_type 25 = .ok (.aload_n 0, 1) := by decide +kernel
theorem dX12_type_26 : decode cX12_type 26 = .ok (.getfield 33, 3) := by decide +kernel
theorem dX12_type_29 : decode cX12_type 29 = .ok (.aload_n 0, 1) := by decide +kernel
theorem dX12_type_30 : decode cX12_type 30 = .ok (.getfield 66, 3) := by decide +kernel
theorem dX12_type_33 : decode cX12_type 33 = .ok (.iload_n 1, 1) := by decide +kernel
theorem dX12_type_34 : decode cX12_type 34 = .ok (.iastore, 1) := by decide +kernel
theorem dX12_type_35 : decode cX12_type 35 = .ok (.aload_n 0, 1) := by decide +kernel
theorem dX12_type_36 : decode cX12_type 36 = .ok (.dup, 1) := by decide +kernel
theorem dX12_type_37 : decode cX12_type 37 = .ok (.getfield 66, 3) := by decide +kernel
theorem dX12_type_40 : decode cX12_type 40 = .ok (.iconst 1, 1) := by decide +kernel
theorem dX12_type_41 : decode cX12_type 41 = .ok (.iadd, 1) := by decide +kernel
theorem dX12_type_42 : decode cX12_type 42 = .ok (.putfield 66, 3) := by decide +kernel
theorem dX12_type_45 : decode cX12_type 45 = .ok (.aload_n 0, 1) := by decide +kernel
theorem dX12_type_46 : decode cX12_type 46 = .ok (.getfield 66, 3) := by decide +kernel
theorem dX12_type_49 : decode cX12_type 49 = .ok (.ireturn, 1) := by decide +kernel
theorem dX12_clear_0 : decode cX12_clear 0 = .ok (.aload_n 0, 1) := by decide +kernel
theorem dX12_clear_1 : decode cX12_clear 1 = .ok (.getfield 66, 3) := by decide +kernel
theorem dX12_clear_4 : decode cX12_clear 4 = .ok (.istore_n 1, 1) := by decide +kernel
theorem dX12_clear_5 : decode cX12_clear 5 = .ok (.aload_n 0, 1) := by decide +kernel
theorem dX12_clear_6 : decode cX12_clear 6 = .ok (.iconst 0, 1) := by decide +kernel
theorem dX12_clear_7 : decode cX12_clear 7 = .ok (.putfield 66, 3) := by decide +kernel
theorem dX12_clear_10 : decode cX12_clear 10 = .ok (.iload_n 1, 1) := by decide +kernel
theorem dX12_clear_11 : decode cX12_clear 11 = .ok (.ireturn, 1) := by decide +kernel
theorem dX12_isFigure_0 : decode cX12_isFigure 0 = .ok (.aload_n 0, 1) := by decide +kernel
theorem dX12_isFigure_1 : decode cX12_isFigure 1 = .ok (.getfield 69, 3) := by decide +kernel
theorem dX12_isFigure_4 : decode cX12_isFigure 4 = .ok (.aload_n 0, 1) := by decide +kernel
theorem dX12_isFigure_5 : decode cX12_isFigure 5 = .ok (.getfield 66, 3) := by decide +kernel
theorem dX12_isFigure_8 : decode cX12_isFigure 8 = .ok (.if_icmp .ge 26, 3) := by decide +kernel
theorem dX12_isFigure_11 : decode cX12_isFigure 11 = .ok (.aload_n 0, 1) := by decide +kernel
theorem dX12_isFigure_12 : decode cX12_isFigure 12 = .ok (.getfield 33, 3) := by decide +kernel
theorem dX12_isFigure_15 : decode cX12_isFigure 15 = .ok (.aload_n 0, 1) := by decide +kernel
theorem dX12_isFigure_16 : decode cX12_isFigure 16 = .ok (.getfield 69, 3) := by decide +kernel
theorem dX12_isFigure_19 : decode cX12_isFigure 19 = .ok (.iaload, 1) := by decide +kernel
theorem dX12_isFigure_20 : decode cX12_isFigure 20 = .ok (.bipush 48, 2) := by decide +kernel
theorem dX12_isFigure_22 : decode cX12_isFigure 22 = .ok (.bipush 57, 2) := by decide +kernel
theorem dX12_isFigure_24 : decode cX12_isFigure 24 = .ok (.invokestatic 58, 3) := by decide +kernel
theorem dX12_isFigure_27 : decode cX12_isFigure 27 = .ok (.ifCond .eq 7, 3) := by decide +kernel
theorem dX12_isFigure_30 : decode cX12_isFigure 30 = .ok (.iconst 1, 1) := by decide +kernel
theorem dX12_isFigure_31 : decode cX12_isFigure 31 = .ok (.goto 4, 3) := by decide +kernel
theorem dX12_isFigure_34 : decode cX12_isFigure 34 = .ok (.iconst 0, 1) := by decide +kernel
theorem dX12_isFigure_35 : decode cX12_isFigure 35 = .ok (.ireturn, 1) := by decide +kernel
theorem dX12_blanks_0 : decode cX12_blanks 0 = .ok (.aload_n 0, 1) := by decide +kernel
theorem dX12_blanks_1 : decode cX12_blanks 1 = .ok (.getfield 69, 3) := by decide +kernel
theorem dX12_blanks_4 : decode cX12_blanks 4 = .ok (.aload_n 0, 1) := by decide +kernel
theorem dX12_blanks_5 : decode cX12_blanks 5 = .ok (.getfield 66, 3) := by decide +kernel
theorem dX12_blanks_8 : decode cX12_blanks 8 = .ok (.if_icmp .ge 30, 3) := by decide +kernel
theorem dX12_blanks_11 : decode cX12_blanks 11 = .ok (.aload_n 0, 1) := by decide +kernel
theorem dX12_blanks_12 : decode cX12_blanks 12 = .ok (.getfield 33, 3) := by decide +kernel
theorem dX12_blanks_15 : decode cX12_blanks 15 = .ok (.aload_n 0, 1) := by decide +kernel
theorem dX12_blanks_16 : decode cX12_blanks 16 = .ok (.getfield 69, 3) := by decide +kernel
theorem dX12_blanks_19 : decode cX12_blanks 19 = .ok (.iaload, 1) := by decide +kernel
theorem dX12_blanks_20 : decode cX12_blanks 20 = .ok (.bipush 32, 2) := by decide +kernel
theorem dX12_blanks_22 : decode cX12_blanks 22 = .ok (.if_icmp .ne 16, 3) := by decide +kernel
theorem dX12_blanks_25 : decode cX12_blanks 25 = .ok (.aload_n 0, 1) := by decide +kernel
theorem dX12_blanks_26 : decode cX12_blanks 26 = .ok (.dup, 1) := by decide +kernel
theorem dX12_blanks_27 : decode cX12_blanks 27 = .ok (.getfield 69, 3) := by decide +kernel
theorem dX12_blanks_30 : decode cX12_blanks 30 = .ok (.iconst 1, 1) := by decide +kernel
theorem dX12_blanks_31 : decode cX12_blanks 31 = .ok (.iadd, 1) := by decide +kernel
theorem dX12_blanks_32 : decode cX12_blanks 32 = .ok (.putfield 69, 3) := by decide +kernel
theorem dX12_blanks_35 : decode cX12_blanks 35 = .ok (.goto (-35), 3) := by decide +kernel
theorem dX12_blanks_38 : decode cX12_blanks 38 = .ok (.return_, 1) := by decide +kernel
theorem dX12_next_0 : decode cX12_next 0 = .ok (.aload_n 0, 1) := by decide +kernel
theorem dX12_next_1 : decode cX12_next 1 = .ok (.invokevirtual 72, 3) := by decide +kernel
theorem dX12_next_4 : decode cX12_next 4 = .ok (.aload_n 0, 1) := by decide +kernel
theorem dX12_next_5 : decode cX12_next 5 = .ok (.aload_n 0, 1) := by decide +kernel
theorem dX12_next_6 : decode cX12_next 6 = .ok (.getfield 69, 3) := by decide +kernel
theorem dX12_next_9 : decode cX12_next 9 = .ok (.putfield 75, 3) := by decide +kernel
theorem dX12_next_12 : decode cX12_next 12 = .ok (.aload_n 0, 1) := by decide +kernel
theorem dX12_next_13 : decode cX12_next 13 = .ok (.getfield 69, 3) := by decide +kernel
theorem dX12_next_16 : decode cX12_next 16 = .ok (.aload_n 0, 1) := by decide +kernel
theorem dX12_next_17 : decode cX12_next 17 = .ok (.getfield 66, 3) := by decide +kernel
theorem dX12_next_20 : decode cX12_next 20 = .ok (.if_icmp .ne 11, 3) := by decide +kernel
theorem dX12_next_23 : decode cX12_next 23 = .ok (.aload_n 0, 1) := by decide +kernel
theorem dX12_next_24 : decode cX12_next 24 = .ok (.iconst (-1), 1) := by decide +kernel
theorem dX12_next_25 : decode cX12_next 25 = .ok (.putfield 78, 3) := by decide +kernel
theorem dX12_next_28 : decode cX12_next 28 = .ok (.goto 142, 3) := by decide +kernel
theorem dX12_next_31 : decode cX12_next 31 = .ok (.aload_n 0, 1) := by decide +kernel
theorem dX12_next_32 : decode cX12_next 32 = .ok (.invokevirtual 81, 3) := by decide +kernel
theorem dX12_next_35 : decode cX12_next 35 = .ok (.ifCond .eq 112, 3) := by decide +kernel
theorem dX12_next_38 : decode cX12_next 38 = .ok (.iconst 0, 1) := by decide +kernel
theorem dX12_next_39 : decode cX12_next 39 = .ok (.istore_n 1, 1) := by decide +kernel
theorem dX12_next_40 : decode cX12_next 40 = .ok (.aload_n 0, 1) := by decide +kernel
theorem dX12_next_41 : decode cX12_next 41 = .ok (.invokevirtual 81, 3) := by decide +kernel
theorem dX12_next_44 : decode cX12_next 44 = .ok (.ifCond .eq 52, 3) := by decide +kernel
theorem dX12_next_47 : decode cX12_next 47 = .ok (.aload_n 0, 1) := by decide +kernel
theorem dX12_next_48 : decode cX12_next 48 = .ok (.getfield 69, 3) := by decide +kernel
theorem dX12_next_51 : decode cX12_next 51 = .ok (.aload_n 0, 1) := by decide +kernel
theorem dX12_next_52 : decode cX12_next 52 = .ok (.getfield 75, 3) := by decide +kernel
theorem dX12_next_55 : decode cX12_next 55 = .ok (.isub, 1) := by decide +kernel
theorem dX12_next_56 : decode cX12_next 56 = .ok (.iconst 2, 1) := by decide +kernel
theorem dX12_next_57 : decode cX12_next 57 = .ok (.if_icmp .ge 23, 3) := by decide +kernel
theorem dX12_next_60 : decode cX12_next 60 = .ok (.bipush 10, 2) := by decide +kernel
theorem dX12_next_62 : decode cX12_next 62 = .ok (.iload_n 1, 1) := by decide +kernel
theorem dX12_next_63 : decode cX12_next 63 = .ok (.imul, 1) := by decide +kernel
theorem dX12_next_64 : decode cX12_next 64 = .ok (.aload_n 0, 1) := by decide +kernel
theorem dX12_next_65 : decode cX12_next 65 = .ok (.getfield 33, 3) := by decide +kernel
theorem dX12_next_68 : decode cX12_next 68 = .ok (.aload_n 0, 1) := by decide +kernel
theorem dX12_next_69 : decode cX12_next 69 = .ok (.getfield 69, 3) := by decide +kernel
theorem dX12_next_72 : decode cX12_next 72 = .ok (.iaload, 1) := by decide +kernel
theorem dX12_next_73 : decode cX12_next 73 = .ok (.iadd, 1) := by decide +kernel
theorem dX12_next_74 : decode cX12_next 74 = .ok (.bipush 48, 2) := by decide +kernel
theorem dX12_next_76 : decode cX12_next 76 = .ok (.isub, 1) := by decide +kernel
theorem dX12_next_77 : decode cX12_next 77 = .ok (.goto 5, 3) := by decide +kernel
theorem dX12_next_80 : decode cX12_next 80 = .ok (.bipush 100, 2) := by decide +kernel
theorem dX12_next_82 : decode cX12_next 82 = .ok (.istore_n 1, 1) := by decide +kernel
theorem dX12_next_83 : decode cX12_next 83 = .ok (.aload_n 0, 1) := by decide +kernel
theorem dX12_next_84 : decode cX12_next 84 = .ok (.dup, 1) := by decide +kernel
theorem dX12_next_85 : decode cX12_next 85 = .ok (.getfield 69, 3) := by decide +kernel
theorem dX12_next_88 : decode cX12_next 88 = .ok (.iconst 1, 1) := by decide +kernel
theorem dX12_next_89 : decode cX12_next 89 = .ok (.iadd, 1) := by decide +kernel
theorem dX12_next_90 : decode cX12_next 90 = .ok (.putfield 69, 3) := by decide +kernel
theorem dX12_next_93 : decode cX12_next 93 = .ok (.goto (-53), 3) := by decide +kernel
theorem dX12_next_96 : decode cX12_next 96 = .ok (.aload_n 0, 1) := by decide +kernel
theorem dX12_next_97 : decode cX12_next 97 = .ok (.iload_n 1, 1) := by decide +kernel
theorem dX12_next_98 : decode cX12_next 98 = .ok (.bipush 99, 2) := by decide +kernel
theorem dX12_next_100 : decode cX12_next 100 = .ok (.if_icmp .gt 30, 3) := by decide +kernel
theorem dX12_next_103 : decode cX12_next 103 = .ok (.aload_n 0, 1) := by decide +kernel
theorem dX12_next_104 : decode cX12_next 104 = .ok (.getfield 33, 3) := by decide +kernel
theorem dX12_next_107 : decode cX12_next 107 = .ok (.aload_n 0, 1) := by decide +kernel
theorem dX12_next_108 : decode cX12_next 108 = .ok (.getfield 75, 3) := by decide +kernel
theorem dX12_next_111 : decode cX12_next 111 = .ok (.iaload, 1) := by decide +kernel
theorem dX12_next_112 : decode cX12_next 112 = .ok (.bipush 48, 2) := by decide +kernel
theorem dX12_next_114 : decode cX12_next 114 = .ok (.if_icmp .ne 22, 3) := by decide +kernel
theorem dX12_next_117 : decode cX12_next 117 = .ok (.aload_n 0, 1) := by decide +kernel
theorem dX12_next_118 : decode cX12_next 118 = .ok (.getfield 69, 3) := by decide +kernel
theorem dX12_next_121 : decode cX12_next 121 = .ok (.aload_n 0, 1) := by decide +kernel
theorem dX12_next_122 : decode cX12_next 122 = .ok (.getfield 75, 3) := by decide +kernel
theorem dX12_next_125 : decode cX12_next 125 = .ok (.isub, 1) := by decide +kernel
theorem dX12_next_126 : decode cX12_next 126 = .ok (.iconst 1, 1) := by decide +kernel
theorem dX12_next_127 : decode cX12_next 127 = .ok (.if_icmp .le 9, 3) := by decide +kernel
theorem dX12_next_130 : decode cX12_next 130 = .ok (.sipush 2000, 3) := by decide +kernel
theorem dX12_next_133 : decode cX12_next 133 = .ok (.goto 8, 3) := by decide +kernel
theorem dX12_next_136 : decode cX12_next 136 = .ok (.sipush 1000, 3) := by decide +kernel
theorem dX12_next_139 : decode cX12_next 139 = .ok (.iload_n 1, 1) := by decide +kernel
theorem dX12_next_140 : decode cX12_next 140 = .ok (.iadd, 1) := by decide +kernel
theorem dX12_next_141 : decode cX12_next 141 = .ok (.putfield 78, 3) := by decide +kernel
theorem dX12_next_144 : decode cX12_next 144 = .ok (.goto 26, 3) := by decide +kernel
theorem dX12_next_147 : decode cX12_next 147 = .ok (.aload_n 0, 1) := by decide +kernel
theorem dX12_next_148 : decode cX12_next 148 = .ok (.aload_n 0, 1) := by decide +kernel
theorem dX12_next_149 : decode cX12_next 149 = .ok (.getfield 33, 3) := by decide +kernel
theorem dX12_next_152 : decode cX12_next 152 = .ok (.aload_n 0, 1) := by decide +kernel
theorem dX12_next_153 : decode cX12_next 153 = .ok (.getfield 69, 3) := by decide +kernel
theorem dX12_next_156 : decode cX12_next 156 = .ok (.iaload, 1) := by decide +kernel
theorem dX12_next_157 : decode cX12_next 157 = .ok (.putfield 78, 3) := by decide +kernel
theorem dX12_next_160 : decode cX12_next 160 = .ok (.aload_n 0, 1) := by decide +kernel
theorem dX12_next_161 : decode cX12_next 161 = .ok (.dup, 1) := by decide +kernel
theorem dX12_next_162 : decode cX12_next 162 = .ok (.getfield 69, 3) := by decide +kernel
theorem dX12_next_165 : decode cX12_next 165 = .ok (.iconst 1, 1) := by decide +kernel
theorem dX12_next_166 : decode cX12_next 166 = .ok (.iadd, 1) := by decide +kernel
theorem dX12_next_167 : decode cX12_next 167 = .ok (.putfield 69, 3) := by decide +kernel
theorem dX12_next_170 : decode cX12_next 170 = .ok (.return_, 1) := by decide +kernel
theorem dX12_isNumber_0 : decode cX12_isNumber 0 = .ok (.aload_n 0, 1) := by decide +kernel
theorem dX12_isNumber_1 : decode cX12_isNumber 1 = .ok (.invokevirtual 85, 3) := by decide +kernel
theorem dX12_isNumber_4 : decode cX12_isNumber 4 = .ok (.aload_n 0, 1) := by decide +kernel
theorem dX12_isNumber_5 : decode cX12_isNumber 5 = .ok (.getfield 78, 3) := by decide +kernel
theorem dX12_isNumber_8 : decode cX12_isNumber 8 = .ok (.sipush 1000, 3) := by decide +kernel
theorem dX12_isNumber_11 : decode cX12_isNumber 11 = .ok (.iload_n 1, 1) := by decide +kernel
theorem dX12_isNumber_12 : decode cX12_isNumber 12 = .ok (.iadd, 1) := by decide +kernel
theorem dX12_isNumber_13 : decode cX12_isNumber 13 = .ok (.sipush 1000, 3) := by decide +kernel
theorem dX12_isNumber_16 : decode cX12_isNumber 16 = .ok (.iload_n 2, 1) := by decide +kernel
theorem dX12_isNumber_17 : decode cX12_isNumber 17 = .ok (.iadd, 1) := by decide +kernel
theorem dX12_isNumber_18 : decode cX12_isNumber 18 = .ok (.invokestatic 58, 3) := by decide +kernel
theorem dX12_isNumber_21 : decode cX12_isNumber 21 = .ok (.ireturn, 1) := by decide +kernel
theorem dX12_readsLink_0 : decode cX12_readsLink 0 = .ok (.aload_n 0, 1) := by decide +kernel
theorem dX12_readsLink_1 : decode cX12_readsLink 1 = .ok (.getfield 88, 3) := by decide +kernel
theorem dX12_readsLink_4 : decode cX12_readsLink 4 = .ok (.bipush 10, 2) := by decide +kernel
theorem dX12_readsLink_6 : decode cX12_readsLink 6 = .ok (.if_icmp .eq 17, 3) := by decide +kernel
theorem dX12_readsLink_9 : decode cX12_readsLink 9 = .ok (.aload_n 0, 1) := by decide +kernel
theorem dX12_readsLink_10 : decode cX12_readsLink 10 = .ok (.iconst 0, 1) := by decide +kernel
theorem dX12_readsLink_11 : decode cX12_readsLink 11 = .ok (.aload_n 0, 1) := by decide +kernel
theorem dX12_readsLink_12 : decode cX12_readsLink 12 = .ok (.getfield 91, 3) := by decide +kernel
theorem dX12_readsLink_15 : decode cX12_readsLink 15 = .ok (.iconst 1, 1) := by decide +kernel
theorem dX12_readsLink_16 : decode cX12_readsLink 16 = .ok (.isub, 1) := by decide +kernel
theorem dX12_readsLink_17 : decode cX12_readsLink 17 = .ok (.invokevirtual 94, 3) := by decide +kernel
theorem dX12_readsLink_20 : decode cX12_readsLink 20 = .ok (.ifCond .ne 5, 3) := by decide +kernel
theorem dX12_readsLink_23 : decode cX12_readsLink 23 = .ok (.iconst 0, 1) := by decide +kernel
theorem dX12_readsLink_24 : decode cX12_readsLink 24 = .ok (.ireturn, 1) := by decide +kernel
theorem dX12_readsLink_25 : decode cX12_readsLink 25 = .ok (.aload_n 0, 1) := by decide +kernel
theorem dX12_readsLink_26 : decode cX12_readsLink 26 = .ok (.getfield 78, 3) := by decide +kernel
theorem dX12_readsLink_29 : decode cX12_readsLink 29 = .ok (.sipush 1000, 3) := by decide +kernel
theorem dX12_readsLink_32 : decode cX12_readsLink 32 = .ok (.isub, 1) := by decide +kernel
theorem dX12_readsLink_33 : decode cX12_readsLink 33 = .ok (.istore_n 1, 1) := by decide +kernel
theorem dX12_readsLink_34 : decode cX12_readsLink 34 = .ok (.aload_n 0, 1) := by decide +kernel
theorem dX12_readsLink_35 : decode cX12_readsLink 35 = .ok (.iconst 0, 1) := by decide +kernel
theorem dX12_readsLink_36 : decode cX12_readsLink 36 = .ok (.aload_n 0, 1) := by decide +kernel
theorem dX12_readsLink_37 : decode cX12_readsLink 37 = .ok (.getfield 91, 3) := by decide +kernel
theorem dX12_readsLink_40 : decode cX12_readsLink 40 = .ok (.iconst 1, 1) := by decide +kernel
theorem dX12_readsLink_41 : decode cX12_readsLink 41 = .ok (.isub, 1) := by decide +kernel
theorem dX12_readsLink_42 : decode cX12_readsLink 42 = .ok (.invokevirtual 94, 3) := by decide +kernel
theorem dX12_readsLink_45 : decode cX12_readsLink 45 = .ok (.ifCond .eq 35, 3) := by decide +kernel
theorem dX12_readsLink_48 : decode cX12_readsLink 48 = .ok (.aload_n 0, 1) := by decide +kernel
theorem dX12_readsLink_49 : decode cX12_readsLink 49 = .ok (.getfield 78, 3) := by decide +kernel
theorem dX12_readsLink_52 : decode cX12_readsLink 52 = .ok (.sipush 1000, 3) := by decide +kernel
theorem dX12_readsLink_55 : decode cX12_readsLink 55 = .ok (.isub, 1) := by decide +kernel
theorem dX12_readsLink_56 : decode cX12_readsLink 56 = .ok (.iload_n 1, 1) := by decide +kernel
theorem dX12_readsLink_57 : decode cX12_readsLink 57 = .ok (.if_icmp .eq 23, 3) := by decide +kernel
theorem dX12_readsLink_60 : decode cX12_readsLink 60 = .ok (.aload_n 0, 1) := by decide +kernel
theorem dX12_readsLink_61 : decode cX12_readsLink 61 = .ok (.getfield 36, 3) := by decide +kernel
theorem dX12_readsLink_64 : decode cX12_readsLink 64 = .ok (.iload_n 1, 1) := by decide +kernel
theorem dX12_readsLink_65 : decode cX12_readsLink 65 = .ok (.aload_n 0, 1) := by decide +kernel
theorem dX12_readsLink_66 : decode cX12_readsLink 66 = .ok (.getfield 78, 3) := by decide +kernel
theorem dX12_readsLink_69 : decode cX12_readsLink 69 = .ok (.sipush 1000, 3) := by decide +kernel
theorem dX12_readsLink_72 : decode cX12_readsLink 72 = .ok (.isub, 1) := by decide +kernel
theorem dX12_readsLink_73 : decode cX12_readsLink 73 = .ok (.invokestatic 62, 3) := by decide +kernel
theorem dX12_readsLink_76 : decode cX12_readsLink 76 = .ok (.iaload, 1) := by decide +kernel
theorem dX12_readsLink_77 : decode cX12_readsLink 77 = .ok (.ifCond .le 5, 3) := by decide +kernel
theorem dX12_readsLink_80 : decode cX12_readsLink 80 = .ok (.iconst 0, 1) := by decide +kernel
theorem dX12_readsLink_81 : decode cX12_readsLink 81 = .ok (.ireturn, 1) := by decide +kernel
theorem dX12_readsLink_82 : decode cX12_readsLink 82 = .ok (.aload_n 0, 1) := by decide +kernel
theorem dX12_readsLink_83 : decode cX12_readsLink 83 = .ok (.getfield 78, 3) := by decide +kernel
theorem dX12_readsLink_86 : decode cX12_readsLink 86 = .ok (.sipush 1000, 3) := by decide +kernel
theorem dX12_readsLink_89 : decode cX12_readsLink 89 = .ok (.isub, 1) := by decide +kernel
theorem dX12_readsLink_90 : decode cX12_readsLink 90 = .ok (.istore_n 2, 1) := by decide +kernel
theorem dX12_readsLink_91 : decode cX12_readsLink 91 = .ok (.aload_n 0, 1) := by decide +kernel
theorem dX12_readsLink_92 : decode cX12_readsLink 92 = .ok (.iconst 1, 1) := by decide +kernel
theorem dX12_readsLink_93 : decode cX12_readsLink 93 = .ok (.bipush 9, 2) := by decide +kernel
theorem dX12_readsLink_95 : decode cX12_readsLink 95 = .ok (.invokevirtual 94, 3) := by decide +kernel
theorem dX12_readsLink_98 : decode cX12_readsLink 98 = .ok (.ifCond .ne 5, 3) := by decide +kernel
theorem dX12_readsLink_101 : decode cX12_readsLink 101 = .ok (.iconst 0, 1) := by decide +kernel
theorem dX12_readsLink_102 : decode cX12_readsLink 102 = .ok (.ireturn, 1) := by decide +kernel
theorem dX12_readsLink_103 : decode cX12_readsLink 103 = .ok (.aload_n 0, 1) := by decide +kernel
theorem dX12_readsLink_104 : decode cX12_readsLink 104 = .ok (.getfield 36, 3) := by decide +kernel
theorem dX12_readsLink_107 : decode cX12_readsLink 107 = .ok (.iload_n 1, 1) := by decide +kernel
theorem dX12_readsLink_108 : decode cX12_readsLink 108 = .ok (.iload_n 2, 1) := by decide +kernel
theorem dX12_readsLink_109 : decode cX12_readsLink 109 = .ok (.invokestatic 62, 3) := by decide +kernel
theorem dX12_readsLink_112 : decode cX12_readsLink 112 = .ok (.aload_n 0, 1) := by decide +kernel
theorem dX12_readsLink_113 : decode cX12_readsLink 113 = .ok (.getfield 78, 3) := by decide +kernel
theorem dX12_readsLink_116 : decode cX12_readsLink 116 = .ok (.sipush 1000, 3) := by decide +kernel
theorem dX12_readsLink_119 : decode cX12_readsLink 119 = .ok (.isub, 1) := by decide +kernel
theorem dX12_readsLink_120 : decode cX12_readsLink 120 = .ok (.iastore, 1) := by decide +kernel
theorem dX12_readsLink_121 : decode cX12_readsLink 121 = .ok (.aload_n 0, 1) := by decide +kernel
theorem dX12_readsLink_122 : decode cX12_readsLink 122 = .ok (.dup, 1) := by decide +kernel
theorem dX12_readsLink_123 : decode cX12_readsLink 123 = .ok (.getfield 88, 3) := by decide +kernel
theorem dX12_readsLink_126 : decode cX12_readsLink 126 = .ok (.iconst 1, 1) := by decide +kernel
theorem dX12_readsLink_127 : decode cX12_readsLink 127 = .ok (.iadd, 1) := by decide +kernel
theorem dX12_readsLink_128 : decode cX12_readsLink 128 = .ok (.putfield 88, 3) := by decide +kernel
theorem dX12_readsLink_131 : decode cX12_readsLink 131 = .ok (.iconst 1, 1) := by decide +kernel
theorem dX12_readsLink_132 : decode cX12_readsLink 132 = .ok (.ireturn, 1) := by decide +kernel
theorem dX12_readsItem_0 : decode cX12_readsItem 0 = .ok (.aload_n 0, 1) := by decide +kernel
theorem dX12_readsItem_1 : decode cX12_readsItem 1 = .ok (.invokevirtual 85, 3) := by decide +kernel
theorem dX12_readsItem_4 : decode cX12_readsItem 4 = .ok (.iconst 1, 1) := by decide +kernel
theorem dX12_readsItem_5 : decode cX12_readsItem 5 = .ok (.istore_n 2, 1) := by decide +kernel
theorem dX12_readsItem_6 : decode cX12_readsItem 6 = .ok (.aload_n 0, 1) := by decide +kernel
theorem dX12_readsItem_7 : decode cX12_readsItem 7 = .ok (.getfield 78, 3) := by decide +kernel
theorem dX12_readsItem_10 : decode cX12_readsItem 10 = .ok (.tableswitch 278 97 120 #[209, 278, 278, 278, 156, 255, 278, 187, 278, 278, 278, 232, 278, 110, 278, 278, 278, 278, 278, 278, 278, 278, 278, 164], 110) := by decide +kernel
theorem dX12_readsItem_120 : decode cX12_readsItem 120 = .ok (.iload_n 1, 1) := by decide +kernel
theorem dX12_readsItem_121 : decode cX12_readsItem 121 = .ok (.ifCond .ne 17, 3) := by decide +kernel
theorem dX12_readsItem_124 : decode cX12_readsItem 124 = .ok (.aload_n 0, 1) := by decide +kernel
theorem dX12_readsItem_125 : decode cX12_readsItem 125 = .ok (.iconst 2, 1) := by decide +kernel
theorem dX12_readsItem_126 : decode cX12_readsItem 126 = .ok (.bipush 6, 2) := by decide +kernel
theorem dX12_readsItem_128 : decode cX12_readsItem 128 = .ok (.invokevirtual 94, 3) := by decide +kernel
theorem dX12_readsItem_131 : decode cX12_readsItem 131 = .ok (.ifCond .eq 7, 3) := by decide +kernel
theorem dX12_readsItem_134 : decode cX12_readsItem 134 = .ok (.iconst 1, 1) := by decide +kernel
theorem dX12_readsItem_135 : decode cX12_readsItem 135 = .ok (.goto 4, 3) := by decide +kernel
theorem dX12_readsItem_138 : decode cX12_readsItem 138 = .ok (.iconst 0, 1) := by decide +kernel
theorem dX12_readsItem_139 : decode cX12_readsItem 139 = .ok (.istore_n 2, 1) := by decide +kernel
theorem dX12_readsItem_140 : decode cX12_readsItem 140 = .ok (.aload_n 0, 1) := by decide +kernel
theorem dX12_readsItem_141 : decode cX12_readsItem 141 = .ok (.iload_n 2, 1) := by decide +kernel
theorem dX12_readsItem_142 : decode cX12_readsItem 142 = .ok (.ifCond .eq 14, 3) := by decide +kernel
theorem dX12_readsItem_145 : decode cX12_readsItem 145 = .ok (.aload_n 0, 1) := by decide +kernel
theorem dX12_readsItem_146 : decode cX12_readsItem 146 = .ok (.getfield 78, 3) := by decide +kernel
theorem dX12_readsItem_149 : decode cX12_readsItem 149 = .ok (.sipush 1000, 3) := by decide +kernel
theorem dX12_readsItem_152 : decode cX12_readsItem 152 = .ok (.isub, 1) := by decide +kernel
theorem dX12_readsItem_153 : decode cX12_readsItem 153 = .ok (.goto 7, 3) := by decide +kernel
theorem dX12_readsItem_156 : decode cX12_readsItem 156 = .ok (.aload_n 0, 1) := by decide +kernel
theorem dX12_readsItem_157 : decode cX12_readsItem 157 = .ok (.getfield 91, 3) := by decide +kernel
theorem dX12_readsItem_160 : decode cX12_readsItem 160 = .ok (.putfield 91, 3) := by decide +kernel
theorem dX12_readsItem_163 : decode cX12_readsItem 163 = .ok (.goto 127, 3) := by decide +kernel
theorem dX12_readsItem_166 : decode cX12_readsItem 166 = .ok (.aload_n 0, 1) := by decide +kernel
theorem dX12_readsItem_167 : decode cX12_readsItem 167 = .ok (.invokevirtual 98, 3) := by decide +kernel
theorem dX12_readsItem_170 : decode cX12_readsItem 170 = .ok (.istore_n 2, 1) := by decide +kernel
theorem dX12_readsItem_171 : decode cX12_readsItem 171 = .ok (.goto 119, 3) := by decide +kernel
theorem dX12_readsItem_174 : decode cX12_readsItem 174 = .ok (.aload_n 0, 1) := by decide +kernel
theorem dX12_readsItem_175 : decode cX12_readsItem 175 = .ok (.iconst 0, 1) := by decide +kernel
theorem dX12_readsItem_176 : decode cX12_readsItem 176 = .ok (.bipush 9, 2) := by decide +kernel
theorem dX12_readsItem_178 : decode cX12_readsItem 178 = .ok (.invokevirtual 94, 3) := by decide +kernel
theorem dX12_readsItem_181 : decode cX12_readsItem 181 = .ok (.istore_n 2, 1) := by decide +kernel
theorem dX12_readsItem_182 : decode cX12_readsItem 182 = .ok (.aload_n 0, 1) := by decide +kernel
theorem dX12_readsItem_183 : decode cX12_readsItem 183 = .ok (.aload_n 0, 1) := by decide +kernel
theorem dX12_readsItem_184 : decode cX12_readsItem 184 = .ok (.getfield 78, 3) := by decide +kernel
theorem dX12_readsItem_187 : decode cX12_readsItem 187 = .ok (.sipush 1000, 3) := by decide +kernel
theorem dX12_readsItem_190 : decode cX12_readsItem 190 = .ok (.isub, 1) := by decide +kernel
theorem dX12_readsItem_191 : decode cX12_readsItem 191 = .ok (.putfield 101, 3) := by decide +kernel
theorem dX12_readsItem_194 : decode cX12_readsItem 194 = .ok (.goto 96, 3) := by decide +kernel
theorem dX12_readsItem_197 : decode cX12_readsItem 197 = .ok (.aload_n 0, 1) := by decide +kernel
theorem dX12_readsItem_198 : decode cX12_readsItem 198 = .ok (.iconst 0, 1) := by decide +kernel
theorem dX12_readsItem_199 : decode cX12_readsItem 199 = .ok (.iconst 3, 1) := by decide +kernel
theorem dX12_readsItem_200 : decode cX12_readsItem 200 = .ok (.invokevirtual 94, 3) := by decide +kernel
theorem dX12_readsItem_203 : decode cX12_readsItem 203 = .ok (.istore_n 2, 1) := by decide +kernel
theorem dX12_readsItem_204 : decode cX12_readsItem 204 = .ok (.aload_n 0, 1) := by decide +kernel
theorem dX12_readsItem_205 : decode cX12_readsItem 205 = .ok (.aload_n 0, 1) := by decide +kernel
theorem dX12_readsItem_206 : decode cX12_readsItem 206 = .ok (.getfield 78, 3) := by decide +kernel
theorem dX12_readsItem_209 : decode cX12_readsItem 209 = .ok (.sipush 1000, 3) := by decide +kernel
theorem dX12_readsItem_212 : decode cX12_readsItem 212 = .ok (.isub, 1) := by decide +kernel
theorem dX12_readsItem_213 : decode cX12_readsItem 213 = .ok (.putfield 104, 3) := by decide +kernel
theorem dX12_readsItem_216 : decode cX12_readsItem 216 = .ok (.goto 74, 3) := by decide +kernel
theorem dX12_readsItem_219 : decode cX12_readsItem 219 = .ok (.aload_n 0, 1) := by decide +kernel
theorem dX12_readsItem_220 : decode cX12_readsItem 220 = .ok (.iconst 1, 1) := by decide +kernel
theorem dX12_readsItem_221 : decode cX12_readsItem 221 = .ok (.bipush 99, 2) := by decide +kernel
theorem dX12_readsItem_223 : decode cX12_readsItem 223 = .ok (.invokevirtual 94, 3) := by decide +kernel
theorem dX12_readsItem_226 : decode cX12_readsItem 226 = .ok (.istore_n 2, 1) := by decide +kernel
theorem dX12_readsItem_227 : decode cX12_readsItem 227 = .ok (.aload_n 0, 1) := by decide +kernel
theorem dX12_readsItem_228 : decode cX12_readsItem 228 = .ok (.aload_n 0, 1) := by decide +kernel
theorem dX12_readsItem_229 : decode cX12_readsItem 229 = .ok (.getfield 78, 3) := by decide +kernel
theorem dX12_readsItem_232 : decode cX12_readsItem 232 = .ok (.sipush 1000, 3) := by decide +kernel
theorem dX12_readsItem_235 : decode cX12_readsItem 235 = .ok (.isub, 1) := by decide +kernel
theorem dX12_readsItem_236 : decode cX12_readsItem 236 = .ok (.putfield 107, 3) := by decide +kernel
theorem dX12_readsItem_239 : decode cX12_readsItem 239 = .ok (.goto 51, 3) := by decide +kernel
theorem dX12_readsItem_242 : decode cX12_readsItem 242 = .ok (.aload_n 0, 1) := by decide +kernel
theorem dX12_readsItem_243 : decode cX12_readsItem 243 = .ok (.iconst 1, 1) := by decide +kernel
theorem dX12_readsItem_244 : decode cX12_readsItem 244 = .ok (.bipush 99, 2) := by decide +kernel
theorem dX12_readsItem_246 : decode cX12_readsItem 246 = .ok (.invokevirtual 94, 3) := by decide +kernel
theorem dX12_readsItem_249 : decode cX12_readsItem 249 = .ok (.istore_n 2, 1) := by decide +kernel
theorem dX12_readsItem_250 : decode cX12_readsItem 250 = .ok (.aload_n 0, 1) := by decide +kernel
theorem dX12_readsItem_251 : decode cX12_readsItem 251 = .ok (.aload_n 0, 1) := by decide +kernel
theorem dX12_readsItem_252 : decode cX12_readsItem 252 = .ok (.getfield 78, 3) := by decide +kernel
theorem dX12_readsItem_255 : decode cX12_readsItem 255 = .ok (.sipush 1000, 3) := by decide +kernel
theorem dX12_readsItem_258 : decode cX12_readsItem 258 = .ok (.isub, 1) := by decide +kernel
theorem dX12_readsItem_259 : decode cX12_readsItem 259 = .ok (.putfield 110, 3) := by decide +kernel
theorem dX12_readsItem_262 : decode cX12_readsItem 262 = .ok (.goto 28, 3) := by decide +kernel
theorem dX12_readsItem_265 : decode cX12_readsItem 265 = .ok (.aload_n 0, 1) := by decide +kernel
theorem dX12_readsItem_266 : decode cX12_readsItem 266 = .ok (.iconst 0, 1) := by decide +kernel
theorem dX12_readsItem_267 : decode cX12_readsItem 267 = .ok (.bipush 99, 2) := by decide +kernel
theorem dX12_readsItem_269 : decode cX12_readsItem 269 = .ok (.invokevirtual 94, 3) := by decide +kernel
theorem dX12_readsItem_272 : decode cX12_readsItem 272 = .ok (.istore_n 2, 1) := by decide +kernel
theorem dX12_readsItem_273 : decode cX12_readsItem 273 = .ok (.aload_n 0, 1) := by decide +kernel
theorem dX12_readsItem_274 : decode cX12_readsItem 274 = .ok (.aload_n 0, 1) := by decide +kernel
theorem dX12_readsItem_275 : decode cX12_readsItem 275 = .ok (.getfield 78, 3) := by decide +kernel
theorem dX12_readsItem_278 : decode cX12_readsItem 278 = .ok (.sipush 1000, 3) := by decide +kernel
theorem dX12_readsItem_281 : decode cX12_readsItem 281 = .ok (.isub, 1) := by decide +kernel
theorem dX12_readsItem_282 : decode cX12_readsItem 282 = .ok (.putfield 113, 3) := by decide +kernel
theorem dX12_readsItem_285 : decode cX12_readsItem 285 = .ok (.goto 5, 3) := by decide +kernel
theorem dX12_readsItem_288 : decode cX12_readsItem 288 = .ok (.iconst 0, 1) := by decide +kernel
theorem dX12_readsItem_289 : decode cX12_readsItem 289 = .ok (.ireturn, 1) := by decide +kernel
theorem dX12_readsItem_290 : decode cX12_readsItem 290 = .ok (.iload_n 2, 1) := by decide +kernel
theorem dX12_readsItem_291 : decode cX12_readsItem 291 = .ok (.ifCond .ne 5, 3) := by decide +kernel
theorem dX12_readsItem_294 : decode cX12_readsItem 294 = .ok (.iconst 0, 1) := by decide +kernel
theorem dX12_readsItem_295 : decode cX12_readsItem 295 = .ok (.ireturn, 1) := by decide +kernel
theorem dX12_readsItem_296 : decode cX12_readsItem 296 = .ok (.aload_n 0, 1) := by decide +kernel
theorem dX12_readsItem_297 : decode cX12_readsItem 297 = .ok (.invokevirtual 85, 3) := by decide +kernel
theorem dX12_readsItem_300 : decode cX12_readsItem 300 = .ok (.aload_n 0, 1) := by decide +kernel
theorem dX12_readsItem_301 : decode cX12_readsItem 301 = .ok (.getfield 78, 3) := by decide +kernel
theorem dX12_readsItem_304 : decode cX12_readsItem 304 = .ok (.bipush 59, 2) := by decide +kernel
theorem dX12_readsItem_306 : decode cX12_readsItem 306 = .ok (.if_icmp .ne 7, 3) := by decide +kernel
theorem dX12_readsItem_309 : decode cX12_readsItem 309 = .ok (.iconst 1, 1) := by decide +kernel
theorem dX12_readsItem_310 : decode cX12_readsItem 310 = .ok (.goto 4, 3) := by decide +kernel
theorem dX12_readsItem_313 : decode cX12_readsItem 313 = .ok (.iconst 0, 1) := by decide +kernel
theorem dX12_readsItem_314 : decode cX12_readsItem 314 = .ok (.ireturn, 1) := by decide +kernel
theorem dX12_net_0 : decode cX12_net 0 = .ok (.aload_n 0, 1) := by decide +kernel
theorem dX12_net_1 : decode cX12_net 1 = .ok (.iconst 2, 1) := by decide +kernel
theorem dX12_net_2 : decode cX12_net 2 = .ok (.putfield 91, 3) := by decide +kernel
theorem dX12_net_5 : decode cX12_net 5 = .ok (.aload_n 0, 1) := by decide +kernel
theorem dX12_net_6 : decode cX12_net 6 = .ok (.iconst 0, 1) := by decide +kernel
theorem dX12_net_7 : decode cX12_net 7 = .ok (.putfield 101, 3) := by decide +kernel
theorem dX12_net_10 : decode cX12_net 10 = .ok (.aload_n 0, 1) := by decide +kernel
theorem dX12_net_11 : decode cX12_net 11 = .ok (.iconst 0, 1) := by decide +kernel
theorem dX12_net_12 : decode cX12_net 12 = .ok (.putfield 104, 3) := by decide +kernel
theorem dX12_net_15 : decode cX12_net 15 = .ok (.aload_n 0, 1) := by decide +kernel
theorem dX12_net_16 : decode cX12_net 16 = .ok (.bipush 99, 2) := by decide +kernel
theorem dX12_net_18 : decode cX12_net 18 = .ok (.putfield 107, 3) := by decide +kernel
theorem dX12_net_21 : decode cX12_net 21 = .ok (.aload_n 0, 1) := by decide +kernel
theorem dX12_net_22 : decode cX12_net 22 = .ok (.bipush 60, 2) := by decide +kernel
theorem dX12_net_24 : decode cX12_net 24 = .ok (.putfield 110, 3) := by decide +kernel
theorem dX12_net_27 : decode cX12_net 27 = .ok (.aload_n 0, 1) := by decide +kernel
theorem dX12_net_28 : decode cX12_net 28 = .ok (.iconst 0, 1) := by decide +kernel
theorem dX12_net_29 : decode cX12_net 29 = .ok (.putfield 113, 3) := by decide +kernel
theorem dX12_net_32 : decode cX12_net 32 = .ok (.aload_n 0, 1) := by decide +kernel
theorem dX12_net_33 : decode cX12_net 33 = .ok (.iconst 0, 1) := by decide +kernel
theorem dX12_net_34 : decode cX12_net 34 = .ok (.putfield 88, 3) := by decide +kernel
theorem dX12_net_37 : decode cX12_net 37 = .ok (.iconst 0, 1) := by decide +kernel
theorem dX12_net_38 : decode cX12_net 38 = .ok (.istore_n 1, 1) := by decide +kernel
theorem dX12_net_39 : decode cX12_net 39 = .ok (.iload_n 1, 1) := by decide +kernel
theorem dX12_net_40 : decode cX12_net 40 = .ok (.bipush 36, 2) := by decide +kernel
theorem dX12_net_42 : decode cX12_net 42 = .ok (.if_icmp .ge 16, 3) := by decide +kernel
theorem dX12_net_45 : decode cX12_net 45 = .ok (.aload_n 0, 1) := by decide +kernel
theorem dX12_net_46 : decode cX12_net 46 = .ok (.getfield 36, 3) := by decide +kernel
theorem dX12_net_49 : decode cX12_net 49 = .ok (.iload_n 1, 1) := by decide +kernel
theorem dX12_net_50 : decode cX12_net 50 = .ok (.iconst 0, 1) := by decide +kernel
theorem dX12_net_51 : decode cX12_net 51 = .ok (.iastore, 1) := by decide +kernel
theorem dX12_net_52 : decode cX12_net 52 = .ok (.iinc 1 1, 3) := by decide +kernel
theorem dX12_net_55 : decode cX12_net 55 = .ok (.goto (-16), 3) := by decide +kernel
theorem dX12_net_58 : decode cX12_net 58 = .ok (.aload_n 0, 1) := by decide +kernel
theorem dX12_net_59 : decode cX12_net 59 = .ok (.iconst 0, 1) := by decide +kernel
theorem dX12_net_60 : decode cX12_net 60 = .ok (.putfield 69, 3) := by decide +kernel
theorem dX12_net_63 : decode cX12_net 63 = .ok (.iconst 0, 1) := by decide +kernel
theorem dX12_net_64 : decode cX12_net 64 = .ok (.istore_n 1, 1) := by decide +kernel
theorem dX12_net_65 : decode cX12_net 65 = .ok (.aload_n 0, 1) := by decide +kernel
theorem dX12_net_66 : decode cX12_net 66 = .ok (.invokevirtual 72, 3) := by decide +kernel
theorem dX12_net_69 : decode cX12_net 69 = .ok (.aload_n 0, 1) := by decide +kernel
theorem dX12_net_70 : decode cX12_net 70 = .ok (.getfield 69, 3) := by decide +kernel
theorem dX12_net_73 : decode cX12_net 73 = .ok (.aload_n 0, 1) := by decide +kernel
theorem dX12_net_74 : decode cX12_net 74 = .ok (.getfield 66, 3) := by decide +kernel
theorem dX12_net_77 : decode cX12_net 77 = .ok (.if_icmp .ge 29, 3) := by decide +kernel
theorem dX12_net_80 : decode cX12_net 80 = .ok (.aload_n 0, 1) := by decide +kernel
theorem dX12_net_81 : decode cX12_net 81 = .ok (.iload_n 1, 1) := by decide +kernel
theorem dX12_net_82 : decode cX12_net 82 = .ok (.invokevirtual 116, 3) := by decide +kernel
theorem dX12_net_85 : decode cX12_net 85 = .ok (.ifCond .ne 11, 3) := by decide +kernel
theorem dX12_net_88 : decode cX12_net 88 = .ok (.bipush (-10), 2) := by decide +kernel
theorem dX12_net_90 : decode cX12_net 90 = .ok (.aload_n 0, 1) := by decide +kernel
theorem dX12_net_91 : decode cX12_net 91 = .ok (.getfield 75, 3) := by decide +kernel
theorem dX12_net_94 : decode cX12_net 94 = .ok (.isub, 1) := by decide +kernel
theorem dX12_net_95 : decode cX12_net 95 = .ok (.ireturn, 1) := by decide +kernel
theorem dX12_net_96 : decode cX12_net 96 = .ok (.iinc 1 1, 3) := by decide +kernel
theorem dX12_net_99 : decode cX12_net 99 = .ok (.aload_n 0, 1) := by decide +kernel
theorem dX12_net_100 : decode cX12_net 100 = .ok (.invokevirtual 72, 3) := by decide +kernel
theorem dX12_net_103 : decode cX12_net 103 = .ok (.goto (-34), 3) := by decide +kernel
theorem dX12_net_106 : decode cX12_net 106 = .ok (.aload_n 0, 1) := by decide +kernel
theorem dX12_net_107 : decode cX12_net 107 = .ok (.iconst 0, 1) := by decide +kernel
theorem dX12_net_108 : decode cX12_net 108 = .ok (.putfield 66, 3) := by decide +kernel
theorem dX12_net_111 : decode cX12_net 111 = .ok (.aload_n 0, 1) := by decide +kernel
theorem dX12_net_112 : decode cX12_net 112 = .ok (.aload_n 0, 1) := by decide +kernel
theorem dX12_net_113 : decode cX12_net 113 = .ok (.getfield 91, 3) := by decide +kernel
theorem dX12_net_116 : decode cX12_net 116 = .ok (.putfield 7, 3) := by decide +kernel
theorem dX12_net_119 : decode cX12_net 119 = .ok (.aload_n 0, 1) := by decide +kernel
theorem dX12_net_120 : decode cX12_net 120 = .ok (.aload_n 0, 1) := by decide +kernel
theorem dX12_net_121 : decode cX12_net 121 = .ok (.getfield 101, 3) := by decide +kernel
theorem dX12_net_124 : decode cX12_net 124 = .ok (.putfield 120, 3) := by decide +kernel
theorem dX12_net_127 : decode cX12_net 127 = .ok (.aload_n 0, 1) := by decide +kernel
theorem dX12_net_128 : decode cX12_net 128 = .ok (.aload_n 0, 1) := by decide +kernel
theorem dX12_net_129 : decode cX12_net 129 = .ok (.getfield 104, 3) := by decide +kernel
theorem dX12_net_132 : decode cX12_net 132 = .ok (.putfield 123, 3) := by decide +kernel
theorem dX12_net_135 : decode cX12_net 135 = .ok (.aload_n 0, 1) := by decide +kernel
theorem dX12_net_136 : decode cX12_net 136 = .ok (.aload_n 0, 1) := by decide +kernel
theorem dX12_net_137 : decode cX12_net 137 = .ok (.getfield 107, 3) := by decide +kernel
theorem dX12_net_140 : decode cX12_net 140 = .ok (.putfield 13, 3) := by decide +kernel
theorem dX12_net_143 : decode cX12_net 143 = .ok (.aload_n 0, 1) := by decide +kernel
theorem dX12_net_144 : decode cX12_net 144 = .ok (.aload_n 0, 1) := by decide +kernel
theorem dX12_net_145 : decode cX12_net 145 = .ok (.getfield 110, 3) := by decide +kernel
theorem dX12_net_148 : decode cX12_net 148 = .ok (.putfield 16, 3) := by decide +kernel
theorem dX12_net_151 : decode cX12_net 151 = .ok (.aload_n 0, 1) := by decide +kernel
theorem dX12_net_152 : decode cX12_net 152 = .ok (.aload_n 0, 1) := by decide +kernel
theorem dX12_net_153 : decode cX12_net 153 = .ok (.getfield 113, 3) := by decide +kernel
theorem dX12_net_156 : decode cX12_net 156 = .ok (.putfield 126, 3) := by decide +kernel
theorem dX12_net_159 : decode cX12_net 159 = .ok (.aload_n 0, 1) := by decide +kernel
theorem dX12_net_160 : decode cX12_net 160 = .ok (.getfield 19, 3) := by decide +kernel
theorem dX12_net_163 : decode cX12_net 163 = .ok (.invokestatic 54, 3) := by decide +kernel
theorem dX12_net_166 : decode cX12_net 166 = .ok (.iconst 0, 1) := by decide +kernel
theorem dX12_net_167 : decode cX12_net 167 = .ok (.istore_n 2, 1) := by decide +kernel
theorem dX12_net_168 : decode cX12_net 168 = .ok (.iload_n 2, 1) := by decide +kernel
theorem dX12_net_169 : decode cX12_net 169 = .ok (.bipush 36, 2) := by decide +kernel
theorem dX12_net_171 : decode cX12_net 171 = .ok (.if_icmp .ge 24, 3) := by decide +kernel
theorem dX12_net_174 : decode cX12_net 174 = .ok (.aload_n 0, 1) := by decide +kernel
theorem dX12_net_175 : decode cX12_net 175 = .ok (.getfield 19, 3) := by decide +kernel
theorem dX12_net_178 : decode cX12_net 178 = .ok (.bipush 118, 2) := by decide +kernel
theorem dX12_net_180 : decode cX12_net 180 = .ok (.iload_n 2, 1) := by decide +kernel
theorem dX12_net_181 : decode cX12_net 181 = .ok (.iadd, 1) := by decide +kernel
theorem dX12_net_182 : decode cX12_net 182 = .ok (.aload_n 0, 1) := by decide +kernel
theorem dX12_net_183 : decode cX12_net 183 = .ok (.getfield 36, 3) := by decide +kernel
theorem dX12_net_186 : decode cX12_net 186 = .ok (.iload_n 2, 1) := by decide +kernel
theorem dX12_net_187 : decode cX12_net 187 = .ok (.iaload, 1) := by decide +kernel
theorem dX12_net_188 : decode cX12_net 188 = .ok (.iastore, 1) := by decide +kernel
theorem dX12_net_189 : decode cX12_net 189 = .ok (.iinc 2 1, 3) := by decide +kernel
theorem dX12_net_192 : decode cX12_net 192 = .ok (.goto (-24), 3) := by decide +kernel
theorem dX12_net_195 : decode cX12_net 195 = .ok (.aload_n 0, 1) := by decide +kernel
theorem dX12_net_196 : decode cX12_net 196 = .ok (.iconst 0, 1) := by decide +kernel
theorem dX12_net_197 : decode cX12_net 197 = .ok (.putfield 129, 3) := by decide +kernel
theorem dX12_net_200 : decode cX12_net 200 = .ok (.aload_n 0, 1) := by decide +kernel
theorem dX12_net_201 : decode cX12_net 201 = .ok (.iconst 0, 1) := by decide +kernel
theorem dX12_net_202 : decode cX12_net 202 = .ok (.putfield 132, 3) := by decide +kernel
theorem dX12_net_205 : decode cX12_net 205 = .ok (.aload_n 0, 1) := by decide +kernel
theorem dX12_net_206 : decode cX12_net 206 = .ok (.getfield 26, 3) := by decide +kernel
theorem dX12_net_209 : decode cX12_net 209 = .ok (.iconst 0, 1) := by decide +kernel
theorem dX12_net_210 : decode cX12_net 210 = .ok (.iconst 0, 1) := by decide +kernel
theorem dX12_net_211 : decode cX12_net 211 = .ok (.bastore, 1) := by decide +kernel
theorem dX12_net_212 : decode cX12_net 212 = .ok (.aload_n 0, 1) := by decide +kernel
theorem dX12_net_213 : decode cX12_net 213 = .ok (.getfield 26, 3) := by decide +kernel
theorem dX12_net_216 : decode cX12_net 216 = .ok (.iconst 1, 1) := by decide +kernel
theorem dX12_net_217 : decode cX12_net 217 = .ok (.iconst 0, 1) := by decide +kernel
theorem dX12_net_218 : decode cX12_net 218 = .ok (.bastore, 1) := by decide +kernel
theorem dX12_net_219 : decode cX12_net 219 = .ok (.iload_n 1, 1) := by decide +kernel
theorem dX12_net_220 : decode cX12_net 220 = .ok (.ireturn, 1) := by decide +kernel
theorem dX12_link_0 : decode cX12_link 0 = .ok (.aload_n 0, 1) := by decide +kernel
theorem dX12_link_1 : decode cX12_link 1 = .ok (.iload_n 1, 1) := by decide +kernel
theorem dX12_link_2 : decode cX12_link 2 = .ok (.invokevirtual 135, 3) := by decide +kernel
theorem dX12_link_5 : decode cX12_link 5 = .ok (.istore_n 3, 1) := by decide +kernel
theorem dX12_link_6 : decode cX12_link 6 = .ok (.iload_n 3, 1) := by decide +kernel
theorem dX12_link_7 : decode cX12_link 7 = .ok (.bipush (-9), 2) := by decide +kernel
theorem dX12_link_9 : decode cX12_link 9 = .ok (.if_icmp .eq 12, 3) := by decide +kernel
theorem dX12_link_12 : decode cX12_link 12 = .ok (.iload_n 2, 1) := by decide +kernel
theorem dX12_link_13 : decode cX12_link 13 = .ok (.iconst 0, 1) := by decide +kernel
theorem dX12_link_14 : decode cX12_link 14 = .ok (.iconst 2, 1) := by decide +kernel
theorem dX12_link_15 : decode cX12_link 15 = .ok (.invokestatic 58, 3) := by decide +kernel
theorem dX12_link_18 : decode cX12_link 18 = .ok (.ifCond .ne 5, 3) := by decide +kernel
theorem dX12_link_21 : decode cX12_link 21 = .ok (.iconst (-1), 1) := by decide +kernel
theorem dX12_link_22 : decode cX12_link 22 = .ok (.ireturn, 1) := by decide +kernel
theorem dX12_link_23 : decode cX12_link 23 = .ok (.iload_n 2, 1) := by decide +kernel
theorem dX12_link_24 : decode cX12_link 24 = .ok (.ifCond .ne 10, 3) := by decide +kernel
theorem dX12_link_27 : decode cX12_link 27 = .ok (.iload_n 3, 1) := by decide +kernel
theorem dX12_link_28 : decode cX12_link 28 = .ok (.bipush 6, 2) := by decide +kernel
theorem dX12_link_30 : decode cX12_link 30 = .ok (.idiv, 1) := by decide +kernel
theorem dX12_link_31 : decode cX12_link 31 = .ok (.goto 24, 3) := by decide +kernel
theorem dX12_link_34 : decode cX12_link 34 = .ok (.iload_n 2, 1) := by decide +kernel
theorem dX12_link_35 : decode cX12_link 35 = .ok (.iconst 1, 1) := by decide +kernel
theorem dX12_link_36 : decode cX12_link 36 = .ok (.if_icmp .ne 10, 3) := by decide +kernel
theorem dX12_link_39 : decode cX12_link 39 = .ok (.iload_n 3, 1) := by decide +kernel
theorem dX12_link_40 : decode cX12_link 40 = .ok (.bipush 6, 2) := by decide +kernel
theorem dX12_link_42 : decode cX12_link 42 = .ok (.irem, 1) := by decide +kernel
theorem dX12_link_43 : decode cX12_link 43 = .ok (.goto 12, 3) := by decide +kernel
theorem dX12_link_46 : decode cX12_link 46 = .ok (.aload_n 0, 1) := by decide +kernel
theorem dX12_link_47 : decode cX12_link 47 = .ok (.getfield 19, 3) := by decide +kernel
theorem dX12_link_50 : decode cX12_link 50 = .ok (.bipush 118, 2) := by decide +kernel
theorem dX12_link_52 : decode cX12_link 52 = .ok (.iload_n 3, 1) := by decide +kernel
theorem dX12_link_53 : decode cX12_link 53 = .ok (.iadd, 1) := by decide +kernel
theorem dX12_link_54 : decode cX12_link 54 = .ok (.iaload, 1) := by decide +kernel
theorem dX12_link_55 : decode cX12_link 55 = .ok (.ireturn, 1) := by decide +kernel
theorem dX12_guessNow_0 : decode cX12_guessNow 0 = .ok (.iload_n 1, 1) := by decide +kernel
theorem dX12_guessNow_1 : decode cX12_guessNow 1 = .ok (.iload_n 2, 1) := by decide +kernel
theorem dX12_guessNow_2 : decode cX12_guessNow 2 = .ok (.iload_n 3, 1) := by decide +kernel
theorem dX12_guessNow_3 : decode cX12_guessNow 3 = .ok (.invokestatic 139, 3) := by decide +kernel
theorem dX12_guessNow_6 : decode cX12_guessNow 6 = .ok (.istore 4, 2) := by decide +kernel
theorem dX12_guessNow_8 : decode cX12_guessNow 8 = .ok (.aload_n 0, 1) := by decide +kernel
theorem dX12_guessNow_9 : decode cX12_guessNow 9 = .ok (.getfield 19, 3) := by decide +kernel
theorem dX12_guessNow_12 : decode cX12_guessNow 12 = .ok (.sipush 406, 3) := by decide +kernel
theorem dX12_guessNow_15 : decode cX12_guessNow 15 = .ok (.iload 4, 2) := by decide +kernel
theorem dX12_guessNow_17 : decode cX12_guessNow 17 = .ok (.iadd, 1) := by decide +kernel
theorem dX12_guessNow_18 : decode cX12_guessNow 18 = .ok (.iaload, 1) := by decide +kernel
theorem dX12_guessNow_19 : decode cX12_guessNow 19 = .ok (.istore 5, 2) := by decide +kernel
theorem dX12_guessNow_21 : decode cX12_guessNow 21 = .ok (.iload 5, 2) := by decide +kernel
theorem dX12_guessNow_23 : decode cX12_guessNow 23 = .ok (.ifCond .lt 19, 3) := by decide +kernel
theorem dX12_guessNow_26 : decode cX12_guessNow 26 = .ok (.aload_n 0, 1) := by decide +kernel
theorem dX12_guessNow_27 : decode cX12_guessNow 27 = .ok (.getfield 19, 3) := by decide +kernel
theorem dX12_guessNow_30 : decode cX12_guessNow 30 = .ok (.iconst 0, 1) := by decide +kernel
theorem dX12_guessNow_31 : decode cX12_guessNow 31 = .ok (.iaload, 1) := by decide +kernel
theorem dX12_guessNow_32 : decode cX12_guessNow 32 = .ok (.iload 5, 2) := by decide +kernel
theorem dX12_guessNow_34 : decode cX12_guessNow 34 = .ok (.isub, 1) := by decide +kernel
theorem dX12_guessNow_35 : decode cX12_guessNow 35 = .ok (.aload_n 0, 1) := by decide +kernel
theorem dX12_guessNow_36 : decode cX12_guessNow 36 = .ok (.getfield 13, 3) := by decide +kernel
theorem dX12_guessNow_39 : decode cX12_guessNow 39 = .ok (.if_icmp .le 13, 3) := by decide +kernel
theorem dX12_guessNow_42 : decode cX12_guessNow 42 = .ok (.bipush 64, 2) := by decide +kernel
theorem dX12_guessNow_44 : decode cX12_guessNow 44 = .ok (.aload_n 0, 1) := by decide +kernel
theorem dX12_guessNow_45 : decode cX12_guessNow 45 = .ok (.getfield 126, 3) := by decide +kernel
theorem dX12_guessNow_48 : decode cX12_guessNow 48 = .ok (.imul, 1) := by decide +kernel
theorem dX12_guessNow_49 : decode cX12_guessNow 49 = .ok (.goto 14, 3) := by decide +kernel
theorem dX12_guessNow_52 : decode cX12_guessNow 52 = .ok (.aload_n 0, 1) := by decide +kernel
theorem dX12_guessNow_53 : decode cX12_guessNow 53 = .ok (.getfield 19, 3) := by decide +kernel
theorem dX12_guessNow_56 : decode cX12_guessNow 56 = .ok (.sipush 190, 3) := by decide +kernel
theorem dX12_guessNow_59 : decode cX12_guessNow 59 = .ok (.iload 4, 2) := by decide +kernel
theorem dX12_guessNow_61 : decode cX12_guessNow 61 = .ok (.iadd, 1) := by decide +kernel
theorem dX12_guessNow_62 : decode cX12_guessNow 62 = .ok (.iaload, 1) := by decide +kernel
theorem dX12_guessNow_63 : decode cX12_guessNow 63 = .ok (.ireturn, 1) := by decide +kernel
theorem dX12_bestOf_0 : decode cX12_bestOf 0 = .ok (.bipush (-9), 2) := by decide +kernel
theorem dX12_bestOf_2 : decode cX12_bestOf 2 = .ok (.istore_n 3, 1) := by decide +kernel
theorem dX12_bestOf_3 : decode cX12_bestOf 3 = .ok (.aload_n 0, 1) := by decide +kernel
theorem dX12_bestOf_4 : decode cX12_bestOf 4 = .ok (.getfield 7, 3) := by decide +kernel
theorem dX12_bestOf_7 : decode cX12_bestOf 7 = .ok (.iconst 1, 1) := by decide +kernel
theorem dX12_bestOf_8 : decode cX12_bestOf 8 = .ok (.isub, 1) := by decide +kernel
theorem dX12_bestOf_9 : decode cX12_bestOf 9 = .ok (.istore 4, 2) := by decide +kernel
theorem dX12_bestOf_11 : decode cX12_bestOf 11 = .ok (.iload 4, 2) := by decide +kernel
theorem dX12_bestOf_13 : decode cX12_bestOf 13 = .ok (.ifCond .lt 46, 3) := by decide +kernel
theorem dX12_bestOf_16 : decode cX12_bestOf 16 = .ok (.aload_n 0, 1) := by decide +kernel
theorem dX12_bestOf_17 : decode cX12_bestOf 17 = .ok (.iload_n 1, 1) := by decide +kernel
theorem dX12_bestOf_18 : decode cX12_bestOf 18 = .ok (.iload 4, 2) := by decide +kernel
theorem dX12_bestOf_20 : decode cX12_bestOf 20 = .ok (.invokevirtual 143, 3) := by decide +kernel
theorem dX12_bestOf_23 : decode cX12_bestOf 23 = .ok (.ifCond .le 30, 3) := by decide +kernel
theorem dX12_bestOf_26 : decode cX12_bestOf 26 = .ok (.iload_n 3, 1) := by decide +kernel
theorem dX12_bestOf_27 : decode cX12_bestOf 27 = .ok (.bipush (-9), 2) := by decide +kernel
theorem dX12_bestOf_29 : decode cX12_bestOf 29 = .ok (.if_icmp .eq 21, 3) := by decide +kernel
theorem dX12_bestOf_32 : decode cX12_bestOf 32 = .ok (.aload_n 0, 1) := by decide +kernel
theorem dX12_bestOf_33 : decode cX12_bestOf 33 = .ok (.iload_n 1, 1) := by decide +kernel
theorem dX12_bestOf_34 : decode cX12_bestOf 34 = .ok (.iload_n 2, 1) := by decide +kernel
theorem dX12_bestOf_35 : decode cX12_bestOf 35 = .ok (.iload 4, 2) := by decide +kernel
theorem dX12_bestOf_37 : decode cX12_bestOf 37 = .ok (.invokevirtual 146, 3) := by decide +kernel
theorem dX12_bestOf_40 : decode cX12_bestOf 40 = .ok (.aload_n 0, 1) := by decide +kernel
theorem dX12_bestOf_41 : decode cX12_bestOf 41 = .ok (.iload_n 1, 1) := by decide +kernel
theorem dX12_bestOf_42 : decode cX12_bestOf 42 = .ok (.iload_n 2, 1) := by decide +kernel
theorem dX12_bestOf_43 : decode cX12_bestOf 43 = .ok (.iload_n 3, 1) := by decide +kernel
theorem dX12_bestOf_44 : decode cX12_bestOf 44 = .ok (.invokevirtual 146, 3) := by decide +kernel
theorem dX12_bestOf_47 : decode cX12_bestOf 47 = .ok (.if_icmp .gt 6, 3) := by decide +kernel
theorem dX12_bestOf_50 : decode cX12_bestOf 50 = .ok (.iload 4, 2) := by decide +kernel
theorem dX12_bestOf_52 : decode cX12_bestOf 52 = .ok (.istore_n 3, 1) := by decide +kernel
theorem dX12_bestOf_53 : decode cX12_bestOf 53 = .ok (.iinc 4 (-1), 3) := by decide +kernel
theorem dX12_bestOf_56 : decode cX12_bestOf 56 = .ok (.goto (-45), 3) := by decide +kernel
theorem dX12_bestOf_59 : decode cX12_bestOf 59 = .ok (.iload_n 3, 1) := by decide +kernel
theorem dX12_bestOf_60 : decode cX12_bestOf 60 = .ok (.ireturn, 1) := by decide +kernel
theorem dX12_eldestOf_0 : decode cX12_eldestOf 0 = .ok (.bipush (-9), 2) := by decide +kernel
theorem dX12_eldestOf_2 : decode cX12_eldestOf 2 = .ok (.istore_n 3, 1) := by decide +kernel
theorem dX12_eldestOf_3 : decode cX12_eldestOf 3 = .ok (.aload_n 0, 1) := by decide +kernel
theorem dX12_eldestOf_4 : decode cX12_eldestOf 4 = .ok (.getfield 7, 3) := by decide +kernel
theorem dX12_eldestOf_7 : decode cX12_eldestOf 7 = .ok (.iconst 1, 1) := by decide +kernel
theorem dX12_eldestOf_8 : decode cX12_eldestOf 8 = .ok (.isub, 1) := by decide +kernel
theorem dX12_eldestOf_9 : decode cX12_eldestOf 9 = .ok (.istore 4, 2) := by decide +kernel
theorem dX12_eldestOf_11 : decode cX12_eldestOf 11 = .ok (.iload 4, 2) := by decide +kernel
theorem dX12_eldestOf_13 : decode cX12_eldestOf 13 = .ok (.ifCond .lt 62, 3) := by decide +kernel
theorem dX12_eldestOf_16 : decode cX12_eldestOf 16 = .ok (.aload_n 0, 1) := by decide +kernel
theorem dX12_eldestOf_17 : decode cX12_eldestOf 17 = .ok (.iload_n 1, 1) := by decide +kernel
theorem dX12_eldestOf_18 : decode cX12_eldestOf 18 = .ok (.iload 4, 2) := by decide +kernel
theorem dX12_eldestOf_20 : decode cX12_eldestOf 20 = .ok (.invokevirtual 143, 3) := by decide +kernel
theorem dX12_eldestOf_23 : decode cX12_eldestOf 23 = .ok (.ifCond .le 46, 3) := by decide +kernel
theorem dX12_eldestOf_26 : decode cX12_eldestOf 26 = .ok (.iload_n 3, 1) := by decide +kernel
theorem dX12_eldestOf_27 : decode cX12_eldestOf 27 = .ok (.bipush (-9), 2) := by decide +kernel
theorem dX12_eldestOf_29 : decode cX12_eldestOf 29 = .ok (.if_icmp .eq 37, 3) := by decide +kernel
theorem dX12_eldestOf_32 : decode cX12_eldestOf 32 = .ok (.aload_n 0, 1) := by decide +kernel
theorem dX12_eldestOf_33 : decode cX12_eldestOf 33 = .ok (.getfield 19, 3) := by decide +kernel
theorem dX12_eldestOf_36 : decode cX12_eldestOf 36 = .ok (.sipush 406, 3) := by decide +kernel
theorem dX12_eldestOf_39 : decode cX12_eldestOf 39 = .ok (.iload_n 1, 1) := by decide +kernel
theorem dX12_eldestOf_40 : decode cX12_eldestOf 40 = .ok (.iload_n 2, 1) := by decide +kernel
theorem dX12_eldestOf_41 : decode cX12_eldestOf 41 = .ok (.iload 4, 2) := by decide +kernel
theorem dX12_eldestOf_43 : decode cX12_eldestOf 43 = .ok (.invokestatic 139, 3) := by decide +kernel
theorem dX12_eldestOf_46 : decode cX12_eldestOf 46 = .ok (.iadd, 1) := by decide +kernel
theorem dX12_eldestOf_47 : decode cX12_eldestOf 47 = .ok (.iaload, 1) := by decide +kernel
theorem dX12_eldestOf_48 : decode cX12_eldestOf 48 = .ok (.aload_n 0, 1) := by decide +kernel
theorem dX12_eldestOf_49 : decode cX12_eldestOf 49 = .ok (.getfield 19, 3) := by decide +kernel
theorem dX12_eldestOf_52 : decode cX12_eldestOf 52 = .ok (.sipush 406, 3) := by decide +kernel
theorem dX12_eldestOf_55 : decode cX12_eldestOf 55 = .ok (.iload_n 1, 1) := by decide +kernel
theorem dX12_eldestOf_56 : decode cX12_eldestOf 56 = .ok (.iload_n 2, 1) := by decide +kernel
theorem dX12_eldestOf_57 : decode cX12_eldestOf 57 = .ok (.iload_n 3, 1) := by decide +kernel
theorem dX12_eldestOf_58 : decode cX12_eldestOf 58 = .ok (.invokestatic 139, 3) := by decide +kernel
theorem dX12_eldestOf_61 : decode cX12_eldestOf 61 = .ok (.iadd, 1) := by decide +kernel
theorem dX12_eldestOf_62 : decode cX12_eldestOf 62 = .ok (.iaload, 1) := by decide +kernel
theorem dX12_eldestOf_63 : decode cX12_eldestOf 63 = .ok (.if_icmp .gt 6, 3) := by decide +kernel
theorem dX12_eldestOf_66 : decode cX12_eldestOf 66 = .ok (.iload 4, 2) := by decide +kernel
theorem dX12_eldestOf_68 : decode cX12_eldestOf 68 = .ok (.istore_n 3, 1) := by decide +kernel
theorem dX12_eldestOf_69 : decode cX12_eldestOf 69 = .ok (.iinc 4 (-1), 3) := by decide +kernel
theorem dX12_eldestOf_72 : decode cX12_eldestOf 72 = .ok (.goto (-61), 3) := by decide +kernel
theorem dX12_eldestOf_75 : decode cX12_eldestOf 75 = .ok (.iload_n 3, 1) := by decide +kernel
theorem dX12_eldestOf_76 : decode cX12_eldestOf 76 = .ok (.ireturn, 1) := by decide +kernel
theorem dX12_remembers_0 : decode cX12_remembers 0 = .ok (.iconst 0, 1) := by decide +kernel
theorem dX12_remembers_1 : decode cX12_remembers 1 = .ok (.istore_n 1, 1) := by decide +kernel
theorem dX12_remembers_2 : decode cX12_remembers 2 = .ok (.iload_n 1, 1) := by decide +kernel
theorem dX12_remembers_3 : decode cX12_remembers 3 = .ok (.sipush 622, 3) := by decide +kernel
theorem dX12_remembers_6 : decode cX12_remembers 6 = .ok (.if_icmp .ge 30, 3) := by decide +kernel
theorem dX12_remembers_9 : decode cX12_remembers 9 = .ok (.aload_n 0, 1) := by decide +kernel
theorem dX12_remembers_10 : decode cX12_remembers 10 = .ok (.getfield 23, 3) := by decide +kernel
theorem dX12_remembers_13 : decode cX12_remembers 13 = .ok (.sipush 622, 3) := by decide +kernel
theorem dX12_remembers_16 : decode cX12_remembers 16 = .ok (.aload_n 0, 1) := by decide +kernel
theorem dX12_remembers_17 : decode cX12_remembers 17 = .ok (.getfield 149, 3) := by decide +kernel
theorem dX12_remembers_20 : decode cX12_remembers 20 = .ok (.imul, 1) := by decide +kernel
theorem dX12_remembers_21 : decode cX12_remembers 21 = .ok (.iload_n 1, 1) := by decide +kernel
theorem dX12_remembers_22 : decode cX12_remembers 22 = .ok (.iadd, 1) := by decide +kernel
theorem dX12_remembers_23 : decode cX12_remembers 23 = .ok (.aload_n 0, 1) := by decide +kernel
theorem dX12_remembers_24 : decode cX12_remembers 24 = .ok (.getfield 19, 3) := by decide +kernel
theorem dX12_remembers_27 : decode cX12_remembers 27 = .ok (.iload_n 1, 1) := by decide +kernel
theorem dX12_remembers_28 : decode cX12_remembers 28 = .ok (.iaload, 1) := by decide +kernel
theorem dX12_remembers_29 : decode cX12_remembers 29 = .ok (.iastore, 1) := by decide +kernel
theorem dX12_remembers_30 : decode cX12_remembers 30 = .ok (.iinc 1 1, 3) := by decide +kernel
theorem dX12_remembers_33 : decode cX12_remembers 33 = .ok (.goto (-31), 3) := by decide +kernel
theorem dX12_remembers_36 : decode cX12_remembers 36 = .ok (.aload_n 0, 1) := by decide +kernel
theorem dX12_remembers_37 : decode cX12_remembers 37 = .ok (.aload_n 0, 1) := by decide +kernel
theorem dX12_remembers_38 : decode cX12_remembers 38 = .ok (.getfield 149, 3) := by decide +kernel
theorem dX12_remembers_41 : decode cX12_remembers 41 = .ok (.iconst 1, 1) := by decide +kernel
theorem dX12_remembers_42 : decode cX12_remembers 42 = .ok (.iadd, 1) := by decide +kernel
theorem dX12_remembers_43 : decode cX12_remembers 43 = .ok (.bipush 8, 2) := by decide +kernel
theorem dX12_remembers_45 : decode cX12_remembers 45 = .ok (.irem, 1) := by decide +kernel
theorem dX12_remembers_46 : decode cX12_remembers 46 = .ok (.putfield 149, 3) := by decide +kernel
theorem dX12_remembers_49 : decode cX12_remembers 49 = .ok (.aload_n 0, 1) := by decide +kernel
theorem dX12_remembers_50 : decode cX12_remembers 50 = .ok (.dup, 1) := by decide +kernel
theorem dX12_remembers_51 : decode cX12_remembers 51 = .ok (.getfield 129, 3) := by decide +kernel
theorem dX12_remembers_54 : decode cX12_remembers 54 = .ok (.aload_n 0, 1) := by decide +kernel
theorem dX12_remembers_55 : decode cX12_remembers 55 = .ok (.getfield 129, 3) := by decide +kernel
theorem dX12_remembers_58 : decode cX12_remembers 58 = .ok (.bipush 8, 2) := by decide +kernel
theorem dX12_remembers_60 : decode cX12_remembers 60 = .ok (.if_icmp .ge 7, 3) := by decide +kernel
theorem dX12_remembers_63 : decode cX12_remembers 63 = .ok (.iconst 1, 1) := by decide +kernel
theorem dX12_remembers_64 : decode cX12_remembers 64 = .ok (.goto 4, 3) := by decide +kernel
theorem dX12_remembers_67 : decode cX12_remembers 67 = .ok (.iconst 0, 1) := by decide +kernel
theorem dX12_remembers_68 : decode cX12_remembers 68 = .ok (.iadd, 1) := by decide +kernel
theorem dX12_remembers_69 : decode cX12_remembers 69 = .ok (.putfield 129, 3) := by decide +kernel
theorem dX12_remembers_72 : decode cX12_remembers 72 = .ok (.return_, 1) := by decide +kernel
theorem dX12_hops_0 : decode cX12_hops 0 = .ok (.aload_n 0, 1) := by decide +kernel
theorem dX12_hops_1 : decode cX12_hops 1 = .ok (.getfield 19, 3) := by decide +kernel
theorem dX12_hops_4 : decode cX12_hops 4 = .ok (.bipush 106, 2) := by decide +kernel
theorem dX12_hops_6 : decode cX12_hops 6 = .ok (.iload_n 1, 1) := by decide +kernel
theorem dX12_hops_7 : decode cX12_hops 7 = .ok (.iadd, 1) := by decide +kernel
theorem dX12_hops_8 : decode cX12_hops 8 = .ok (.dup2, 1) := by decide +kernel
theorem dX12_hops_9 : decode cX12_hops 9 = .ok (.iaload, 1) := by decide +kernel
theorem dX12_hops_10 : decode cX12_hops 10 = .ok (.iconst 1, 1) := by decide +kernel
theorem dX12_hops_11 : decode cX12_hops 11 = .ok (.iadd, 1) := by decide +kernel
theorem dX12_hops_12 : decode cX12_hops 12 = .ok (.iastore, 1) := by decide +kernel
theorem dX12_hops_13 : decode cX12_hops 13 = .ok (.aload_n 0, 1) := by decide +kernel
theorem dX12_hops_14 : decode cX12_hops 14 = .ok (.getfield 120, 3) := by decide +kernel
theorem dX12_hops_17 : decode cX12_hops 17 = .ok (.ifCond .le 24, 3) := by decide +kernel
theorem dX12_hops_20 : decode cX12_hops 20 = .ok (.aload_n 0, 1) := by decide +kernel
theorem dX12_hops_21 : decode cX12_hops 21 = .ok (.getfield 19, 3) := by decide +kernel
theorem dX12_hops_24 : decode cX12_hops 24 = .ok (.bipush 106, 2) := by decide +kernel
theorem dX12_hops_26 : decode cX12_hops 26 = .ok (.iload_n 1, 1) := by decide +kernel
theorem dX12_hops_27 : decode cX12_hops 27 = .ok (.iadd, 1) := by decide +kernel
theorem dX12_hops_28 : decode cX12_hops 28 = .ok (.iaload, 1) := by decide +kernel
theorem dX12_hops_29 : decode cX12_hops 29 = .ok (.aload_n 0, 1) := by decide +kernel
theorem dX12_hops_30 : decode cX12_hops 30 = .ok (.getfield 120, 3) := by decide +kernel
theorem dX12_hops_33 : decode cX12_hops 33 = .ok (.irem, 1) := by decide +kernel
theorem dX12_hops_34 : decode cX12_hops 34 = .ok (.ifCond .ne 7, 3) := by decide +kernel
theorem dX12_hops_37 : decode cX12_hops 37 = .ok (.iconst 1, 1) := by decide +kernel
theorem dX12_hops_38 : decode cX12_hops 38 = .ok (.goto 4, 3) := by decide +kernel
theorem dX12_hops_41 : decode cX12_hops 41 = .ok (.iconst 0, 1) := by decide +kernel
theorem dX12_hops_42 : decode cX12_hops 42 = .ok (.istore_n 3, 1) := by decide +kernel
theorem dX12_hops_43 : decode cX12_hops 43 = .ok (.aload_n 0, 1) := by decide +kernel
theorem dX12_hops_44 : decode cX12_hops 44 = .ok (.getfield 19, 3) := by decide +kernel
theorem dX12_hops_47 : decode cX12_hops 47 = .ok (.bipush 112, 2) := by decide +kernel
theorem dX12_hops_49 : decode cX12_hops 49 = .ok (.iload_n 1, 1) := by decide +kernel
theorem dX12_hops_50 : decode cX12_hops 50 = .ok (.iadd, 1) := by decide +kernel
theorem dX12_hops_51 : decode cX12_hops 51 = .ok (.dup2, 1) := by decide +kernel
theorem dX12_hops_52 : decode cX12_hops 52 = .ok (.iaload, 1) := by decide +kernel
theorem dX12_hops_53 : decode cX12_hops 53 = .ok (.iload_n 3, 1) := by decide +kernel
theorem dX12_hops_54 : decode cX12_hops 54 = .ok (.ifCond .eq 7, 3) := by decide +kernel
theorem dX12_hops_57 : decode cX12_hops 57 = .ok (.iconst 1, 1) := by decide +kernel
theorem dX12_hops_58 : decode cX12_hops 58 = .ok (.goto 4, 3) := by decide +kernel
theorem dX12_hops_61 : decode cX12_hops 61 = .ok (.iconst 0, 1) := by decide +kernel
theorem dX12_hops_62 : decode cX12_hops 62 = .ok (.iadd, 1) := by decide +kernel
theorem dX12_hops_63 : decode cX12_hops 63 = .ok (.iastore, 1) := by decide +kernel
theorem dX12_hops_64 : decode cX12_hops 64 = .ok (.iload_n 3, 1) := by decide +kernel
theorem dX12_hops_65 : decode cX12_hops 65 = .ok (.ifCond .eq 12, 3) := by decide +kernel
theorem dX12_hops_68 : decode cX12_hops 68 = .ok (.aload_n 0, 1) := by decide +kernel
theorem dX12_hops_69 : decode cX12_hops 69 = .ok (.iload_n 1, 1) := by decide +kernel
theorem dX12_hops_70 : decode cX12_hops 70 = .ok (.iload_n 2, 1) := by decide +kernel
theorem dX12_hops_71 : decode cX12_hops 71 = .ok (.invokevirtual 152, 3) := by decide +kernel
theorem dX12_hops_74 : decode cX12_hops 74 = .ok (.goto 9, 3) := by decide +kernel
theorem dX12_hops_77 : decode cX12_hops 77 = .ok (.aload_n 0, 1) := by decide +kernel
theorem dX12_hops_78 : decode cX12_hops 78 = .ok (.iload_n 1, 1) := by decide +kernel
theorem dX12_hops_79 : decode cX12_hops 79 = .ok (.iload_n 2, 1) := by decide +kernel
theorem dX12_hops_80 : decode cX12_hops 80 = .ok (.invokevirtual 155, 3) := by decide +kernel
theorem dX12_hops_83 : decode cX12_hops 83 = .ok (.istore 4, 2) := by decide +kernel
theorem dX12_hops_85 : decode cX12_hops 85 = .ok (.aload_n 0, 1) := by decide +kernel
theorem dX12_hops_86 : decode cX12_hops 86 = .ok (.getfield 19, 3) := by decide +kernel
theorem dX12_hops_89 : decode cX12_hops 89 = .ok (.iconst 0, 1) := by decide +kernel
theorem dX12_hops_90 : decode cX12_hops 90 = .ok (.dup2, 1) := by decide +kernel
theorem dX12_hops_91 : decode cX12_hops 91 = .ok (.iaload, 1) := by decide +kernel
theorem dX12_hops_92 : decode cX12_hops 92 = .ok (.iconst 1, 1) := by decide +kernel
theorem dX12_hops_93 : decode cX12_hops 93 = .ok (.iadd, 1) := by decide +kernel
theorem dX12_hops_94 : decode cX12_hops 94 = .ok (.iastore, 1) := by decide +kernel
theorem dX12_hops_95 : decode cX12_hops 95 = .ok (.aload_n 0, 1) := by decide +kernel
theorem dX12_hops_96 : decode cX12_hops 96 = .ok (.getfield 19, 3) := by decide +kernel
theorem dX12_hops_99 : decode cX12_hops 99 = .ok (.sipush 154, 3) := by decide +kernel
theorem dX12_hops_102 : decode cX12_hops 102 = .ok (.iload_n 1, 1) := by decide +kernel
theorem dX12_hops_103 : decode cX12_hops 103 = .ok (.iload 4, 2) := by decide +kernel
theorem dX12_hops_105 : decode cX12_hops 105 = .ok (.invokestatic 62, 3) := by decide +kernel
theorem dX12_hops_108 : decode cX12_hops 108 = .ok (.iadd, 1) := by decide +kernel
theorem dX12_hops_109 : decode cX12_hops 109 = .ok (.dup2, 1) := by decide +kernel
theorem dX12_hops_110 : decode cX12_hops 110 = .ok (.iaload, 1) := by decide +kernel
theorem dX12_hops_111 : decode cX12_hops 111 = .ok (.iconst 1, 1) := by decide +kernel
theorem dX12_hops_112 : decode cX12_hops 112 = .ok (.iadd, 1) := by decide +kernel
theorem dX12_hops_113 : decode cX12_hops 113 = .ok (.iastore, 1) := by decide +kernel
theorem dX12_hops_114 : decode cX12_hops 114 = .ok (.bipush 64, 2) := by decide +kernel
theorem dX12_hops_116 : decode cX12_hops 116 = .ok (.aload_n 0, 1) := by decide +kernel
theorem dX12_hops_117 : decode cX12_hops 117 = .ok (.iload_n 1, 1) := by decide +kernel
theorem dX12_hops_118 : decode cX12_hops 118 = .ok (.iload 4, 2) := by decide +kernel
theorem dX12_hops_120 : decode cX12_hops 120 = .ok (.invokevirtual 143, 3) := by decide +kernel
theorem dX12_hops_123 : decode cX12_hops 123 = .ok (.imul, 1) := by decide +kernel
theorem dX12_hops_124 : decode cX12_hops 124 = .ok (.istore 5, 2) := by decide +kernel
theorem dX12_hops_126 : decode cX12_hops 126 = .ok (.iload 4, 2) := by decide +kernel
theorem dX12_hops_128 : decode cX12_hops 128 = .ok (.iload_n 2, 1) := by decide +kernel
theorem dX12_hops_129 : decode cX12_hops 129 = .ok (.if_icmp .eq 22, 3) := by decide +kernel
theorem dX12_hops_132 : decode cX12_hops 132 = .ok (.iload 5, 2) := by decide +kernel
theorem dX12_hops_134 : decode cX12_hops 134 = .ok (.aload_n 0, 1) := by decide +kernel
theorem dX12_hops_135 : decode cX12_hops 135 = .ok (.iload 4, 2) := by decide +kernel
theorem dX12_hops_137 : decode cX12_hops 137 = .ok (.iload_n 2, 1) := by decide +kernel
theorem dX12_hops_138 : decode cX12_hops 138 = .ok (.aload_n 0, 1) := by decide +kernel
theorem dX12_hops_139 : decode cX12_hops 139 = .ok (.iload 4, 2) := by decide +kernel
theorem dX12_hops_141 : decode cX12_hops 141 = .ok (.iload_n 2, 1) := by decide +kernel
theorem dX12_hops_142 : decode cX12_hops 142 = .ok (.invokevirtual 155, 3) := by decide +kernel
theorem dX12_hops_145 : decode cX12_hops 145 = .ok (.invokevirtual 146, 3) := by decide +kernel
theorem dX12_hops_148 : decode cX12_hops 148 = .ok (.iadd, 1) := by decide +kernel
theorem dX12_hops_149 : decode cX12_hops 149 = .ok (.istore 5, 2) := by decide +kernel
theorem dX12_hops_151 : decode cX12_hops 151 = .ok (.aload_n 0, 1) := by decide +kernel
theorem dX12_hops_152 : decode cX12_hops 152 = .ok (.iload_n 1, 1) := by decide +kernel
theorem dX12_hops_153 : decode cX12_hops 153 = .ok (.iload_n 2, 1) := by decide +kernel
theorem dX12_hops_154 : decode cX12_hops 154 = .ok (.iload 4, 2) := by decide +kernel
theorem dX12_hops_156 : decode cX12_hops 156 = .ok (.invokevirtual 146, 3) := by decide +kernel
theorem dX12_hops_159 : decode cX12_hops 159 = .ok (.istore 6, 2) := by decide +kernel
theorem dX12_hops_161 : decode cX12_hops 161 = .ok (.iload 6, 2) := by decide +kernel
theorem dX12_hops_163 : decode cX12_hops 163 = .ok (.iload 5, 2) := by decide +kernel
theorem dX12_hops_165 : decode cX12_hops 165 = .ok (.iload 6, 2) := by decide +kernel
theorem dX12_hops_167 : decode cX12_hops 167 = .ok (.isub, 1) := by decide +kernel
theorem dX12_hops_168 : decode cX12_hops 168 = .ok (.aload_n 0, 1) := by decide +kernel
theorem dX12_hops_169 : decode cX12_hops 169 = .ok (.getfield 123, 3) := by decide +kernel
theorem dX12_hops_172 : decode cX12_hops 172 = .ok (.ishr, 1) := by decide +kernel
theorem dX12_hops_173 : decode cX12_hops 173 = .ok (.iadd, 1) := by decide +kernel
theorem dX12_hops_174 : decode cX12_hops 174 = .ok (.istore 7, 2) := by decide +kernel
theorem dX12_hops_176 : decode cX12_hops 176 = .ok (.iload_n 1, 1) := by decide +kernel
theorem dX12_hops_177 : decode cX12_hops 177 = .ok (.iload_n 2, 1) := by decide +kernel
theorem dX12_hops_178 : decode cX12_hops 178 = .ok (.iload 4, 2) := by decide +kernel
theorem dX12_hops_180 : decode cX12_hops 180 = .ok (.invokestatic 139, 3) := by decide +kernel
theorem dX12_hops_183 : decode cX12_hops 183 = .ok (.istore 8, 2) := by decide +kernel
theorem dX12_hops_185 : decode cX12_hops 185 = .ok (.aload_n 0, 1) := by decide +kernel
theorem dX12_hops_186 : decode cX12_hops 186 = .ok (.getfield 19, 3) := by decide +kernel
theorem dX12_hops_189 : decode cX12_hops 189 = .ok (.sipush 190, 3) := by decide +kernel
theorem dX12_hops_192 : decode cX12_hops 192 = .ok (.iload 8, 2) := by decide +kernel
theorem dX12_hops_194 : decode cX12_hops 194 = .ok (.iadd, 1) := by decide +kernel
theorem dX12_hops_195 : decode cX12_hops 195 = .ok (.iload 7, 2) := by decide +kernel
theorem dX12_hops_197 : decode cX12_hops 197 = .ok (.ldc 158, 2) := by decide +kernel
theorem dX12_hops_199 : decode cX12_hops 199 = .ok (.if_icmp .le 8, 3) := by decide +kernel
theorem dX12_hops_202 : decode cX12_hops 202 = .ok (.ldc 158, 2) := by decide +kernel
theorem dX12_hops_204 : decode cX12_hops 204 = .ok (.goto 5, 3) := by decide +kernel
theorem dX12_hops_207 : decode cX12_hops 207 = .ok (.iload 7, 2) := by decide +kernel
theorem dX12_hops_209 : decode cX12_hops 209 = .ok (.iastore, 1) := by decide +kernel
theorem dX12_hops_210 : decode cX12_hops 210 = .ok (.aload_n 0, 1) := by decide +kernel
theorem dX12_hops_211 : decode cX12_hops 211 = .ok (.getfield 19, 3) := by decide +kernel
theorem dX12_hops_214 : decode cX12_hops 214 = .ok (.sipush 406, 3) := by decide +kernel
theorem dX12_hops_217 : decode cX12_hops 217 = .ok (.iload 8, 2) := by decide +kernel
theorem dX12_hops_219 : decode cX12_hops 219 = .ok (.iadd, 1) := by decide +kernel
theorem dX12_hops_220 : decode cX12_hops 220 = .ok (.aload_n 0, 1) := by decide +kernel
theorem dX12_hops_221 : decode cX12_hops 221 = .ok (.getfield 19, 3) := by decide +kernel
theorem dX12_hops_224 : decode cX12_hops 224 = .ok (.iconst 0, 1) := by decide +kernel
theorem dX12_hops_225 : decode cX12_hops 225 = .ok (.iaload, 1) := by decide +kernel
theorem dX12_hops_226 : decode cX12_hops 226 = .ok (.iastore, 1) := by decide +kernel
theorem dX12_hops_227 : decode cX12_hops 227 = .ok (.iload 4, 2) := by decide +kernel
theorem dX12_hops_229 : decode cX12_hops 229 = .ok (.ireturn, 1) := by decide +kernel
theorem dX12_letter_0 : decode cX12_letter 0 = .ok (.aload_n 0, 1) := by decide +kernel
theorem dX12_letter_1 : decode cX12_letter 1 = .ok (.getfield 19, 3) := by decide +kernel
theorem dX12_letter_4 : decode cX12_letter 4 = .ok (.iconst 1, 1) := by decide +kernel
theorem dX12_letter_5 : decode cX12_letter 5 = .ok (.iconst 0, 1) := by decide +kernel
theorem dX12_letter_6 : decode cX12_letter 6 = .ok (.iastore, 1) := by decide +kernel
theorem dX12_letter_7 : decode cX12_letter 7 = .ok (.aload_n 0, 1) := by decide +kernel
theorem dX12_letter_8 : decode cX12_letter 8 = .ok (.getfield 19, 3) := by decide +kernel
theorem dX12_letter_11 : decode cX12_letter 11 = .ok (.iconst 2, 1) := by decide +kernel
theorem dX12_letter_12 : decode cX12_letter 12 = .ok (.iload_n 1, 1) := by decide +kernel
theorem dX12_letter_13 : decode cX12_letter 13 = .ok (.iastore, 1) := by decide +kernel
theorem dX12_letter_14 : decode cX12_letter 14 = .ok (.iload_n 1, 1) := by decide +kernel
theorem dX12_letter_15 : decode cX12_letter 15 = .ok (.istore_n 3, 1) := by decide +kernel
theorem dX12_letter_16 : decode cX12_letter 16 = .ok (.iconst 0, 1) := by decide +kernel
theorem dX12_letter_17 : decode cX12_letter 17 = .ok (.istore 4, 2) := by decide +kernel
theorem dX12_letter_19 : decode cX12_letter 19 = .ok (.aload_n 0, 1) := by decide +kernel
theorem dX12_letter_20 : decode cX12_letter 20 = .ok (.iload_n 1, 1) := by decide +kernel
theorem dX12_letter_21 : decode cX12_letter 21 = .ok (.iload_n 2, 1) := by decide +kernel
theorem dX12_letter_22 : decode cX12_letter 22 = .ok (.invokevirtual 155, 3) := by decide +kernel
theorem dX12_letter_25 : decode cX12_letter 25 = .ok (.bipush (-9), 2) := by decide +kernel
theorem dX12_letter_27 : decode cX12_letter 27 = .ok (.if_icmp .ne 6, 3) := by decide +kernel
theorem dX12_letter_30 : decode cX12_letter 30 = .ok (.bipush (-9), 2) := by decide +kernel
theorem dX12_letter_32 : decode cX12_letter 32 = .ok (.ireturn, 1) := by decide +kernel
theorem dX12_letter_33 : decode cX12_letter 33 = .ok (.aload_n 0, 1) := by decide +kernel
theorem dX12_letter_34 : decode cX12_letter 34 = .ok (.iload_n 3, 1) := by decide +kernel
theorem dX12_letter_35 : decode cX12_letter 35 = .ok (.iload_n 2, 1) := by decide +kernel
theorem dX12_letter_36 : decode cX12_letter 36 = .ok (.invokevirtual 159, 3) := by decide +kernel
theorem dX12_letter_39 : decode cX12_letter 39 = .ok (.istore 5, 2) := by decide +kernel
theorem dX12_letter_41 : decode cX12_letter 41 = .ok (.iload 4, 2) := by decide +kernel
theorem dX12_letter_43 : decode cX12_letter 43 = .ok (.aload_n 0, 1) := by decide +kernel
theorem dX12_letter_44 : decode cX12_letter 44 = .ok (.iload_n 3, 1) := by decide +kernel
theorem dX12_letter_45 : decode cX12_letter 45 = .ok (.iload 5, 2) := by decide +kernel
theorem dX12_letter_47 : decode cX12_letter 47 = .ok (.invokevirtual 143, 3) := by decide +kernel
theorem dX12_letter_50 : decode cX12_letter 50 = .ok (.iadd, 1) := by decide +kernel
theorem dX12_letter_51 : decode cX12_letter 51 = .ok (.istore 4, 2) := by decide +kernel
theorem dX12_letter_53 : decode cX12_letter 53 = .ok (.aload_n 0, 1) := by decide +kernel
theorem dX12_letter_54 : decode cX12_letter 54 = .ok (.getfield 19, 3) := by decide +kernel
theorem dX12_letter_57 : decode cX12_letter 57 = .ok (.iconst 1, 1) := by decide +kernel
theorem dX12_letter_58 : decode cX12_letter 58 = .ok (.dup2, 1) := by decide +kernel
theorem dX12_letter_59 : decode cX12_letter 59 = .ok (.iaload, 1) := by decide +kernel
theorem dX12_letter_60 : decode cX12_letter 60 = .ok (.iconst 1, 1) := by decide +kernel
theorem dX12_letter_61 : decode cX12_letter 61 = .ok (.iadd, 1) := by decide +kernel
theorem dX12_letter_62 : decode cX12_letter 62 = .ok (.iastore, 1) := by decide +kernel
theorem dX12_letter_63 : decode cX12_letter 63 = .ok (.aload_n 0, 1) := by decide +kernel
theorem dX12_letter_64 : decode cX12_letter 64 = .ok (.getfield 19, 3) := by decide +kernel
theorem dX12_letter_67 : decode cX12_letter 67 = .ok (.iconst 2, 1) := by decide +kernel
theorem dX12_letter_68 : decode cX12_letter 68 = .ok (.aload_n 0, 1) := by decide +kernel
theorem dX12_letter_69 : decode cX12_letter 69 = .ok (.getfield 19, 3) := by decide +kernel
theorem dX12_letter_72 : decode cX12_letter 72 = .ok (.iconst 1, 1) := by decide +kernel
theorem dX12_letter_73 : decode cX12_letter 73 = .ok (.iaload, 1) := by decide +kernel
theorem dX12_letter_74 : decode cX12_letter 74 = .ok (.iadd, 1) := by decide +kernel
theorem dX12_letter_75 : decode cX12_letter 75 = .ok (.iload 5, 2) := by decide +kernel
theorem dX12_letter_77 : decode cX12_letter 77 = .ok (.iastore, 1) := by decide +kernel
theorem dX12_letter_78 : decode cX12_letter 78 = .ok (.iload 5, 2) := by decide +kernel
theorem dX12_letter_80 : decode cX12_letter 80 = .ok (.istore_n 3, 1) := by decide +kernel
theorem dX12_letter_81 : decode cX12_letter 81 = .ok (.iload_n 3, 1) := by decide +kernel
theorem dX12_letter_82 : decode cX12_letter 82 = .ok (.iload_n 2, 1) := by decide +kernel
theorem dX12_letter_83 : decode cX12_letter 83 = .ok (.if_icmp .ne 6, 3) := by decide +kernel
theorem dX12_letter_86 : decode cX12_letter 86 = .ok (.iload 4, 2) := by decide +kernel
theorem dX12_letter_88 : decode cX12_letter 88 = .ok (.ireturn, 1) := by decide +kernel
theorem dX12_letter_89 : decode cX12_letter 89 = .ok (.iload 4, 2) := by decide +kernel
theorem dX12_letter_91 : decode cX12_letter 91 = .ok (.aload_n 0, 1) := by decide +kernel
theorem dX12_letter_92 : decode cX12_letter 92 = .ok (.getfield 16, 3) := by decide +kernel
theorem dX12_letter_95 : decode cX12_letter 95 = .ok (.if_icmp .le 6, 3) := by decide +kernel
theorem dX12_letter_98 : decode cX12_letter 98 = .ok (.bipush (-9), 2) := by decide +kernel
theorem dX12_letter_100 : decode cX12_letter 100 = .ok (.ireturn, 1) := by decide +kernel
theorem dX12_letter_101 : decode cX12_letter 101 = .ok (.goto (-68), 3) := by decide +kernel
theorem dX12_sends_0 : decode cX12_sends 0 = .ok (.aload_n 0, 1) := by decide +kernel
theorem dX12_sends_1 : decode cX12_sends 1 = .ok (.iload_n 1, 1) := by decide +kernel
theorem dX12_sends_2 : decode cX12_sends 2 = .ok (.invokevirtual 162, 3) := by decide +kernel
theorem dX12_sends_5 : decode cX12_sends 5 = .ok (.ifCond .eq 16, 3) := by decide +kernel
theorem dX12_sends_8 : decode cX12_sends 8 = .ok (.aload_n 0, 1) := by decide +kernel
theorem dX12_sends_9 : decode cX12_sends 9 = .ok (.iload_n 2, 1) := by decide +kernel
theorem dX12_sends_10 : decode cX12_sends 10 = .ok (.invokevirtual 162, 3) := by decide +kernel
theorem dX12_sends_13 : decode cX12_sends 13 = .ok (.ifCond .eq 8, 3) := by decide +kernel
theorem dX12_sends_16 : decode cX12_sends 16 = .ok (.iload_n 1, 1) := by decide +kernel
theorem dX12_sends_17 : decode cX12_sends 17 = .ok (.iload_n 2, 1) := by decide +kernel
theorem dX12_sends_18 : decode cX12_sends 18 = .ok (.if_icmp .ne 5, 3) := by decide +kernel
theorem dX12_sends_21 : decode cX12_sends 21 = .ok (.iconst (-1), 1) := by decide +kernel
theorem dX12_sends_22 : decode cX12_sends 22 = .ok (.ireturn, 1) := by decide +kernel
theorem dX12_sends_23 : decode cX12_sends 23 = .ok (.aload_n 0, 1) := by decide +kernel
theorem dX12_sends_24 : decode cX12_sends 24 = .ok (.invokevirtual 165, 3) := by decide +kernel
theorem dX12_sends_27 : decode cX12_sends 27 = .ok (.aload_n 0, 1) := by decide +kernel
theorem dX12_sends_28 : decode cX12_sends 28 = .ok (.iload_n 1, 1) := by decide +kernel
theorem dX12_sends_29 : decode cX12_sends 29 = .ok (.iload_n 2, 1) := by decide +kernel
theorem dX12_sends_30 : decode cX12_sends 30 = .ok (.invokevirtual 168, 3) := by decide +kernel
theorem dX12_sends_33 : decode cX12_sends 33 = .ok (.ireturn, 1) := by decide +kernel
theorem dX12_rounds_0 : decode cX12_rounds 0 = .ok (.iload_n 1, 1) := by decide +kernel
theorem dX12_rounds_1 : decode cX12_rounds 1 = .ok (.iconst 1, 1) := by decide +kernel
theorem dX12_rounds_2 : decode cX12_rounds 2 = .ok (.iconst 4, 1) := by decide +kernel
theorem dX12_rounds_3 : decode cX12_rounds 3 = .ok (.invokestatic 58, 3) := by decide +kernel
theorem dX12_rounds_6 : decode cX12_rounds 6 = .ok (.ifCond .ne 5, 3) := by decide +kernel
theorem dX12_rounds_9 : decode cX12_rounds 9 = .ok (.iconst (-1), 1) := by decide +kernel
theorem dX12_rounds_10 : decode cX12_rounds 10 = .ok (.ireturn, 1) := by decide +kernel
theorem dX12_rounds_11 : decode cX12_rounds 11 = .ok (.aload_n 0, 1) := by decide +kernel
theorem dX12_rounds_12 : decode cX12_rounds 12 = .ok (.invokevirtual 165, 3) := by decide +kernel
theorem dX12_rounds_15 : decode cX12_rounds 15 = .ok (.iconst 0, 1) := by decide +kernel
theorem dX12_rounds_16 : decode cX12_rounds 16 = .ok (.istore_n 2, 1) := by decide +kernel
theorem dX12_rounds_17 : decode cX12_rounds 17 = .ok (.iconst 0, 1) := by decide +kernel
theorem dX12_rounds_18 : decode cX12_rounds 18 = .ok (.istore_n 3, 1) := by decide +kernel
theorem dX12_rounds_19 : decode cX12_rounds 19 = .ok (.iload_n 3, 1) := by decide +kernel
theorem dX12_rounds_20 : decode cX12_rounds 20 = .ok (.iload_n 1, 1) := by decide +kernel
theorem dX12_rounds_21 : decode cX12_rounds 21 = .ok (.aload_n 0, 1) := by decide +kernel
theorem dX12_rounds_22 : decode cX12_rounds 22 = .ok (.getfield 7, 3) := by decide +kernel
theorem dX12_rounds_25 : decode cX12_rounds 25 = .ok (.imul, 1) := by decide +kernel
theorem dX12_rounds_26 : decode cX12_rounds 26 = .ok (.aload_n 0, 1) := by decide +kernel
theorem dX12_rounds_27 : decode cX12_rounds 27 = .ok (.getfield 7, 3) := by decide +kernel
theorem dX12_rounds_30 : decode cX12_rounds 30 = .ok (.imul, 1) := by decide +kernel
theorem dX12_rounds_31 : decode cX12_rounds 31 = .ok (.if_icmp .ge 56, 3) := by decide +kernel
theorem dX12_rounds_34 : decode cX12_rounds 34 = .ok (.iload_n 3, 1) := by decide +kernel
theorem dX12_rounds_35 : decode cX12_rounds 35 = .ok (.aload_n 0, 1) := by decide +kernel
theorem dX12_rounds_36 : decode cX12_rounds 36 = .ok (.getfield 7, 3) := by decide +kernel
theorem dX12_rounds_39 : decode cX12_rounds 39 = .ok (.idiv, 1) := by decide +kernel
theorem dX12_rounds_40 : decode cX12_rounds 40 = .ok (.aload_n 0, 1) := by decide +kernel
theorem dX12_rounds_41 : decode cX12_rounds 41 = .ok (.getfield 7, 3) := by decide +kernel
theorem dX12_rounds_44 : decode cX12_rounds 44 = .ok (.irem, 1) := by decide +kernel
theorem dX12_rounds_45 : decode cX12_rounds 45 = .ok (.istore 4, 2) := by decide +kernel
theorem dX12_rounds_47 : decode cX12_rounds 47 = .ok (.iload_n 3, 1) := by decide +kernel
theorem dX12_rounds_48 : decode cX12_rounds 48 = .ok (.aload_n 0, 1) := by decide +kernel
theorem dX12_rounds_49 : decode cX12_rounds 49 = .ok (.getfield 7, 3) := by decide +kernel
theorem dX12_rounds_52 : decode cX12_rounds 52 = .ok (.irem, 1) := by decide +kernel
theorem dX12_rounds_53 : decode cX12_rounds 53 = .ok (.istore 5, 2) := by decide +kernel
theorem dX12_rounds_55 : decode cX12_rounds 55 = .ok (.iload_n 2, 1) := by decide +kernel
theorem dX12_rounds_56 : decode cX12_rounds 56 = .ok (.iload 4, 2) := by decide +kernel
theorem dX12_rounds_58 : decode cX12_rounds 58 = .ok (.iload 5, 2) := by decide +kernel
theorem dX12_rounds_60 : decode cX12_rounds 60 = .ok (.if_icmp .eq 18, 3) := by decide +kernel
theorem dX12_rounds_63 : decode cX12_rounds 63 = .ok (.aload_n 0, 1) := by decide +kernel
theorem dX12_rounds_64 : decode cX12_rounds 64 = .ok (.iload 4, 2) := by decide +kernel
theorem dX12_rounds_66 : decode cX12_rounds 66 = .ok (.iload 5, 2) := by decide +kernel
theorem dX12_rounds_68 : decode cX12_rounds 68 = .ok (.invokevirtual 168, 3) := by decide +kernel
theorem dX12_rounds_71 : decode cX12_rounds 71 = .ok (.ifCond .lt 7, 3) := by decide +kernel
theorem dX12_rounds_74 : decode cX12_rounds 74 = .ok (.iconst 1, 1) := by decide +kernel
theorem dX12_rounds_75 : decode cX12_rounds 75 = .ok (.goto 4, 3) := by decide +kernel
theorem dX12_rounds_78 : decode cX12_rounds 78 = .ok (.iconst 0, 1) := by decide +kernel
theorem dX12_rounds_79 : decode cX12_rounds 79 = .ok (.iadd, 1) := by decide +kernel
theorem dX12_rounds_80 : decode cX12_rounds 80 = .ok (.istore_n 2, 1) := by decide +kernel
theorem dX12_rounds_81 : decode cX12_rounds 81 = .ok (.iinc 3 1, 3) := by decide +kernel
theorem dX12_rounds_84 : decode cX12_rounds 84 = .ok (.goto (-65), 3) := by decide +kernel
theorem dX12_rounds_87 : decode cX12_rounds 87 = .ok (.iload_n 2, 1) := by decide +kernel
theorem dX12_rounds_88 : decode cX12_rounds 88 = .ok (.ireturn, 1) := by decide +kernel
theorem dX12_noGuesses_0 : decode cX12_noGuesses 0 = .ok (.iconst 0, 1) := by decide +kernel
theorem dX12_noGuesses_1 : decode cX12_noGuesses 1 = .ok (.istore_n 3, 1) := by decide +kernel
theorem dX12_noGuesses_2 : decode cX12_noGuesses 2 = .ok (.iload_n 3, 1) := by decide +kernel
theorem dX12_noGuesses_3 : decode cX12_noGuesses 3 = .ok (.bipush 6, 2) := by decide +kernel
theorem dX12_noGuesses_5 : decode cX12_noGuesses 5 = .ok (.if_icmp .ge 73, 3) := by decide +kernel
theorem dX12_noGuesses_8 : decode cX12_noGuesses 8 = .ok (.aload_n 0, 1) := by decide +kernel
theorem dX12_noGuesses_9 : decode cX12_noGuesses 9 = .ok (.getfield 19, 3) := by decide +kernel
theorem dX12_noGuesses_12 : decode cX12_noGuesses 12 = .ok (.sipush 406, 3) := by decide +kernel
theorem dX12_noGuesses_15 : decode cX12_noGuesses 15 = .ok (.iload_n 1, 1) := by decide +kernel
theorem dX12_noGuesses_16 : decode cX12_noGuesses 16 = .ok (.iload_n 3, 1) := by decide +kernel
theorem dX12_noGuesses_17 : decode cX12_noGuesses 17 = .ok (.iload_n 2, 1) := by decide +kernel
theorem dX12_noGuesses_18 : decode cX12_noGuesses 18 = .ok (.invokestatic 139, 3) := by decide +kernel
theorem dX12_noGuesses_21 : decode cX12_noGuesses 21 = .ok (.iadd, 1) := by decide +kernel
theorem dX12_noGuesses_22 : decode cX12_noGuesses 22 = .ok (.iconst (-1), 1) := by decide +kernel
theorem dX12_noGuesses_23 : decode cX12_noGuesses 23 = .ok (.iastore, 1) := by decide +kernel
theorem dX12_noGuesses_24 : decode cX12_noGuesses 24 = .ok (.aload_n 0, 1) := by decide +kernel
theorem dX12_noGuesses_25 : decode cX12_noGuesses 25 = .ok (.getfield 19, 3) := by decide +kernel
theorem dX12_noGuesses_28 : decode cX12_noGuesses 28 = .ok (.sipush 406, 3) := by decide +kernel
theorem dX12_noGuesses_31 : decode cX12_noGuesses 31 = .ok (.iload_n 2, 1) := by decide +kernel
theorem dX12_noGuesses_32 : decode cX12_noGuesses 32 = .ok (.iload_n 3, 1) := by decide +kernel
theorem dX12_noGuesses_33 : decode cX12_noGuesses 33 = .ok (.iload_n 1, 1) := by decide +kernel
theorem dX12_noGuesses_34 : decode cX12_noGuesses 34 = .ok (.invokestatic 139, 3) := by decide +kernel
theorem dX12_noGuesses_37 : decode cX12_noGuesses 37 = .ok (.iadd, 1) := by decide +kernel
theorem dX12_noGuesses_38 : decode cX12_noGuesses 38 = .ok (.iconst (-1), 1) := by decide +kernel
theorem dX12_noGuesses_39 : decode cX12_noGuesses 39 = .ok (.iastore, 1) := by decide +kernel
theorem dX12_noGuesses_40 : decode cX12_noGuesses 40 = .ok (.aload_n 0, 1) := by decide +kernel
theorem dX12_noGuesses_41 : decode cX12_noGuesses 41 = .ok (.getfield 19, 3) := by decide +kernel
theorem dX12_noGuesses_44 : decode cX12_noGuesses 44 = .ok (.sipush 190, 3) := by decide +kernel
theorem dX12_noGuesses_47 : decode cX12_noGuesses 47 = .ok (.iload_n 1, 1) := by decide +kernel
theorem dX12_noGuesses_48 : decode cX12_noGuesses 48 = .ok (.iload_n 3, 1) := by decide +kernel
theorem dX12_noGuesses_49 : decode cX12_noGuesses 49 = .ok (.iload_n 2, 1) := by decide +kernel
theorem dX12_noGuesses_50 : decode cX12_noGuesses 50 = .ok (.invokestatic 139, 3) := by decide +kernel
theorem dX12_noGuesses_53 : decode cX12_noGuesses 53 = .ok (.iadd, 1) := by decide +kernel
theorem dX12_noGuesses_54 : decode cX12_noGuesses 54 = .ok (.iconst 0, 1) := by decide +kernel
theorem dX12_noGuesses_55 : decode cX12_noGuesses 55 = .ok (.iastore, 1) := by decide +kernel
theorem dX12_noGuesses_56 : decode cX12_noGuesses 56 = .ok (.aload_n 0, 1) := by decide +kernel
theorem dX12_noGuesses_57 : decode cX12_noGuesses 57 = .ok (.getfield 19, 3) := by decide +kernel
theorem dX12_noGuesses_60 : decode cX12_noGuesses 60 = .ok (.sipush 190, 3) := by decide +kernel
theorem dX12_noGuesses_63 : decode cX12_noGuesses 63 = .ok (.iload_n 2, 1) := by decide +kernel
theorem dX12_noGuesses_64 : decode cX12_noGuesses 64 = .ok (.iload_n 3, 1) := by decide +kernel
theorem dX12_noGuesses_65 : decode cX12_noGuesses 65 = .ok (.iload_n 1, 1) := by decide +kernel
theorem dX12_noGuesses_66 : decode cX12_noGuesses 66 = .ok (.invokestatic 139, 3) := by decide +kernel
theorem dX12_noGuesses_69 : decode cX12_noGuesses 69 = .ok (.iadd, 1) := by decide +kernel
theorem dX12_noGuesses_70 : decode cX12_noGuesses 70 = .ok (.iconst 0, 1) := by decide +kernel
theorem dX12_noGuesses_71 : decode cX12_noGuesses 71 = .ok (.iastore, 1) := by decide +kernel
theorem dX12_noGuesses_72 : decode cX12_noGuesses 72 = .ok (.iinc 3 1, 3) := by decide +kernel
theorem dX12_noGuesses_75 : decode cX12_noGuesses 75 = .ok (.goto (-73), 3) := by decide +kernel
theorem dX12_noGuesses_78 : decode cX12_noGuesses 78 = .ok (.return_, 1) := by decide +kernel
theorem dX12_cuts_0 : decode cX12_cuts 0 = .ok (.aload_n 0, 1) := by decide +kernel
theorem dX12_cuts_1 : decode cX12_cuts 1 = .ok (.iload_n 1, 1) := by decide +kernel
theorem dX12_cuts_2 : decode cX12_cuts 2 = .ok (.invokevirtual 135, 3) := by decide +kernel
theorem dX12_cuts_5 : decode cX12_cuts 5 = .ok (.istore_n 2, 1) := by decide +kernel
theorem dX12_cuts_6 : decode cX12_cuts 6 = .ok (.iload_n 2, 1) := by decide +kernel
theorem dX12_cuts_7 : decode cX12_cuts 7 = .ok (.bipush (-9), 2) := by decide +kernel
theorem dX12_cuts_9 : decode cX12_cuts 9 = .ok (.if_icmp .ne 5, 3) := by decide +kernel
theorem dX12_cuts_12 : decode cX12_cuts 12 = .ok (.iconst (-1), 1) := by decide +kernel
