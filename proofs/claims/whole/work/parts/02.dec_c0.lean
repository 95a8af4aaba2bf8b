theorem dX11_init_0 : decode cX11_init 0 = .ok (.aload_n 0, 1) := by decide +kernel
theorem dX11_init_1 : decode cX11_init 1 = .ok (.invokespecial 3, 3) := by decide +kernel
theorem dX11_init_4 : decode cX11_init 4 = .ok (.aload_n 0, 1) := by decide +kernel
theorem dX11_init_5 : decode cX11_init 5 = .ok (.new 9, 3) := by decide +kernel
theorem dX11_init_8 : decode cX11_init 8 = .ok (.dup, 1) := by decide +kernel
theorem dX11_init_9 : decode cX11_init 9 = .ok (.invokespecial 11, 3) := by decide +kernel
theorem dX11_init_12 : decode cX11_init 12 = .ok (.putfield 12, 3) := by decide +kernel
theorem dX11_init_15 : decode cX11_init 15 = .ok (.aload_n 0, 1) := by decide +kernel
theorem dX11_init_16 : decode cX11_init 16 = .ok (.new 16, 3) := by decide +kernel
theorem dX11_init_19 : decode cX11_init 19 = .ok (.dup, 1) := by decide +kernel
theorem dX11_init_20 : decode cX11_init 20 = .ok (.aload_n 0, 1) := by decide +kernel
theorem dX11_init_21 : decode cX11_init 21 = .ok (.getfield 12, 3) := by decide +kernel
theorem dX11_init_24 : decode cX11_init 24 = .ok (.invokespecial 18, 3) := by decide +kernel
theorem dX11_init_27 : decode cX11_init 27 = .ok (.putfield 21, 3) := by decide +kernel
theorem dX11_init_30 : decode cX11_init 30 = .ok (.aload_n 0, 1) := by decide +kernel
theorem dX11_init_31 : decode cX11_init 31 = .ok (.new 25, 3) := by decide +kernel
theorem dX11_init_34 : decode cX11_init 34 = .ok (.dup, 1) := by decide +kernel
theorem dX11_init_35 : decode cX11_init 35 = .ok (.invokespecial 27, 3) := by decide +kernel
theorem dX11_init_38 : decode cX11_init 38 = .ok (.putfield 28, 3) := by decide +kernel
theorem dX11_init_41 : decode cX11_init 41 = .ok (.aload_n 0, 1) := by decide +kernel
theorem dX11_init_42 : decode cX11_init 42 = .ok (.new 32, 3) := by decide +kernel
theorem dX11_init_45 : decode cX11_init 45 = .ok (.dup, 1) := by decide +kernel
theorem dX11_init_46 : decode cX11_init 46 = .ok (.invokespecial 34, 3) := by decide +kernel
theorem dX11_init_49 : decode cX11_init 49 = .ok (.putfield 35, 3) := by decide +kernel
theorem dX11_init_52 : decode cX11_init 52 = .ok (.aload_n 0, 1) := by decide +kernel
theorem dX11_init_53 : decode cX11_init 53 = .ok (.new 39, 3) := by decide +kernel
theorem dX11_init_56 : decode cX11_init 56 = .ok (.dup, 1) := by decide +kernel
theorem dX11_init_57 : decode cX11_init 57 = .ok (.aload_n 0, 1) := by decide +kernel
theorem dX11_init_58 : decode cX11_init 58 = .ok (.getfield 28, 3) := by decide +kernel
theorem dX11_init_61 : decode cX11_init 61 = .ok (.aload_n 0, 1) := by decide +kernel
theorem dX11_init_62 : decode cX11_init 62 = .ok (.getfield 35, 3) := by decide +kernel
theorem dX11_init_65 : decode cX11_init 65 = .ok (.invokespecial 41, 3) := by decide +kernel
theorem dX11_init_68 : decode cX11_init 68 = .ok (.putfield 44, 3) := by decide +kernel
theorem dX11_init_71 : decode cX11_init 71 = .ok (.aload_n 0, 1) := by decide +kernel
theorem dX11_init_72 : decode cX11_init 72 = .ok (.new 48, 3) := by decide +kernel
theorem dX11_init_75 : decode cX11_init 75 = .ok (.dup, 1) := by decide +kernel
theorem dX11_init_76 : decode cX11_init 76 = .ok (.invokespecial 50, 3) := by decide +kernel
theorem dX11_init_79 : decode cX11_init 79 = .ok (.putfield 51, 3) := by decide +kernel
theorem dX11_init_82 : decode cX11_init 82 = .ok (.aload_n 0, 1) := by decide +kernel
theorem dX11_init_83 : decode cX11_init 83 = .ok (.new 55, 3) := by decide +kernel
theorem dX11_init_86 : decode cX11_init 86 = .ok (.dup, 1) := by decide +kernel
theorem dX11_init_87 : decode cX11_init 87 = .ok (.invokespecial 57, 3) := by decide +kernel
theorem dX11_init_90 : decode cX11_init 90 = .ok (.putfield 58, 3) := by decide +kernel
theorem dX11_init_93 : decode cX11_init 93 = .ok (.aload_n 0, 1) := by decide +kernel
theorem dX11_init_94 : decode cX11_init 94 = .ok (.new 62, 3) := by decide +kernel
theorem dX11_init_97 : decode cX11_init 97 = .ok (.dup, 1) := by decide +kernel
theorem dX11_init_98 : decode cX11_init 98 = .ok (.aload_n 0, 1) := by decide +kernel
theorem dX11_init_99 : decode cX11_init 99 = .ok (.getfield 44, 3) := by decide +kernel
theorem dX11_init_102 : decode cX11_init 102 = .ok (.invokespecial 64, 3) := by decide +kernel
theorem dX11_init_105 : decode cX11_init 105 = .ok (.putfield 67, 3) := by decide +kernel
theorem dX11_init_108 : decode cX11_init 108 = .ok (.aload_n 0, 1) := by decide +kernel
theorem dX11_init_109 : decode cX11_init 109 = .ok (.new 71, 3) := by decide +kernel
theorem dX11_init_112 : decode cX11_init 112 = .ok (.dup, 1) := by decide +kernel
theorem dX11_init_113 : decode cX11_init 113 = .ok (.invokespecial 73, 3) := by decide +kernel
theorem dX11_init_116 : decode cX11_init 116 = .ok (.putfield 74, 3) := by decide +kernel
theorem dX11_init_119 : decode cX11_init 119 = .ok (.aload_n 0, 1) := by decide +kernel
theorem dX11_init_120 : decode cX11_init 120 = .ok (.new 78, 3) := by decide +kernel
theorem dX11_init_123 : decode cX11_init 123 = .ok (.dup, 1) := by decide +kernel
theorem dX11_init_124 : decode cX11_init 124 = .ok (.invokespecial 80, 3) := by decide +kernel
theorem dX11_init_127 : decode cX11_init 127 = .ok (.putfield 81, 3) := by decide +kernel
theorem dX11_init_130 : decode cX11_init 130 = .ok (.return_, 1) := by decide +kernel
theorem dX11_type_0 : decode cX11_type 0 = .ok (.iload_n 1, 1) := by decide +kernel
theorem dX11_type_1 : decode cX11_type 1 = .ok (.ifCond .lt 10, 3) := by decide +kernel
theorem dX11_type_4 : decode cX11_type 4 = .ok (.iload_n 1, 1) := by decide +kernel
theorem dX11_type_5 : decode cX11_type 5 = .ok (.sipush 255, 3) := by decide +kernel
theorem dX11_type_8 : decode cX11_type 8 = .ok (.if_icmp .le 5, 3) := by decide +kernel
theorem dX11_type_11 : decode cX11_type 11 = .ok (.iconst (-1), 1) := by decide +kernel
theorem dX11_type_12 : decode cX11_type 12 = .ok (.ireturn, 1) := by decide +kernel
theorem dX11_type_13 : decode cX11_type 13 = .ok (.aload_n 0, 1) := by decide +kernel
theorem dX11_type_14 : decode cX11_type 14 = .ok (.getfield 12, 3) := by decide +kernel
theorem dX11_type_17 : decode cX11_type 17 = .ok (.iload_n 1, 1) := by decide +kernel
theorem dX11_type_18 : decode cX11_type 18 = .ok (.invokevirtual 85, 3) := by decide +kernel
theorem dX11_type_21 : decode cX11_type 21 = .ok (.ifCond .eq 13, 3) := by decide +kernel
theorem dX11_type_24 : decode cX11_type 24 = .ok (.aload_n 0, 1) := by decide +kernel
theorem dX11_type_25 : decode cX11_type 25 = .ok (.getfield 12, 3) := by decide +kernel
theorem dX11_type_28 : decode cX11_type 28 = .ok (.getfield 89, 3) := by decide +kernel
theorem dX11_type_31 : decode cX11_type 31 = .ok (.goto 5, 3) := by decide +kernel
theorem dX11_type_34 : decode cX11_type 34 = .ok (.bipush (-3), 2) := by decide +kernel
theorem dX11_type_36 : decode cX11_type 36 = .ok (.ireturn, 1) := by decide +kernel
theorem dX11_clear_0 : decode cX11_clear 0 = .ok (.aload_n 0, 1) := by decide +kernel
theorem dX11_clear_1 : decode cX11_clear 1 = .ok (.getfield 12, 3) := by decide +kernel
theorem dX11_clear_4 : decode cX11_clear 4 = .ok (.getfield 89, 3) := by decide +kernel
theorem dX11_clear_7 : decode cX11_clear 7 = .ok (.istore_n 1, 1) := by decide +kernel
theorem dX11_clear_8 : decode cX11_clear 8 = .ok (.aload_n 0, 1) := by decide +kernel
theorem dX11_clear_9 : decode cX11_clear 9 = .ok (.getfield 12, 3) := by decide +kernel
theorem dX11_clear_12 : decode cX11_clear 12 = .ok (.iconst 0, 1) := by decide +kernel
theorem dX11_clear_13 : decode cX11_clear 13 = .ok (.putfield 89, 3) := by decide +kernel
theorem dX11_clear_16 : decode cX11_clear 16 = .ok (.iload_n 1, 1) := by decide +kernel
theorem dX11_clear_17 : decode cX11_clear 17 = .ok (.ireturn, 1) := by decide +kernel
theorem dX11_net_0 : decode cX11_net 0 = .ok (.aload_n 0, 1) := by decide +kernel
theorem dX11_net_1 : decode cX11_net 1 = .ok (.getfield 21, 3) := by decide +kernel
theorem dX11_net_4 : decode cX11_net 4 = .ok (.invokevirtual 93, 3) := by decide +kernel
theorem dX11_net_7 : decode cX11_net 7 = .ok (.istore_n 1, 1) := by decide +kernel
theorem dX11_net_8 : decode cX11_net 8 = .ok (.iload_n 1, 1) := by decide +kernel
theorem dX11_net_9 : decode cX11_net 9 = .ok (.iconst (-1), 1) := by decide +kernel
theorem dX11_net_10 : decode cX11_net 10 = .ok (.if_icmp .eq 8, 3) := by decide +kernel
theorem dX11_net_13 : decode cX11_net 13 = .ok (.bipush (-10), 2) := by decide +kernel
theorem dX11_net_15 : decode cX11_net 15 = .ok (.iload_n 1, 1) := by decide +kernel
theorem dX11_net_16 : decode cX11_net 16 = .ok (.isub, 1) := by decide +kernel
theorem dX11_net_17 : decode cX11_net 17 = .ok (.ireturn, 1) := by decide +kernel
theorem dX11_net_18 : decode cX11_net 18 = .ok (.aload_n 0, 1) := by decide +kernel
theorem dX11_net_19 : decode cX11_net 19 = .ok (.getfield 28, 3) := by decide +kernel
theorem dX11_net_22 : decode cX11_net 22 = .ok (.aload_n 0, 1) := by decide +kernel
theorem dX11_net_23 : decode cX11_net 23 = .ok (.getfield 21, 3) := by decide +kernel
theorem dX11_net_26 : decode cX11_net 26 = .ok (.getfield 97, 3) := by decide +kernel
theorem dX11_net_29 : decode cX11_net 29 = .ok (.invokevirtual 98, 3) := by decide +kernel
theorem dX11_net_32 : decode cX11_net 32 = .ok (.aload_n 0, 1) := by decide +kernel
theorem dX11_net_33 : decode cX11_net 33 = .ok (.getfield 35, 3) := by decide +kernel
theorem dX11_net_36 : decode cX11_net 36 = .ok (.aload_n 0, 1) := by decide +kernel
theorem dX11_net_37 : decode cX11_net 37 = .ok (.getfield 21, 3) := by decide +kernel
theorem dX11_net_40 : decode cX11_net 40 = .ok (.getfield 102, 3) := by decide +kernel
theorem dX11_net_43 : decode cX11_net 43 = .ok (.invokevirtual 106, 3) := by decide +kernel
theorem dX11_net_46 : decode cX11_net 46 = .ok (.aload_n 0, 1) := by decide +kernel
theorem dX11_net_47 : decode cX11_net 47 = .ok (.getfield 51, 3) := by decide +kernel
theorem dX11_net_50 : decode cX11_net 50 = .ok (.iconst 0, 1) := by decide +kernel
theorem dX11_net_51 : decode cX11_net 51 = .ok (.putfield 110, 3) := by decide +kernel
theorem dX11_net_54 : decode cX11_net 54 = .ok (.aload_n 0, 1) := by decide +kernel
theorem dX11_net_55 : decode cX11_net 55 = .ok (.getfield 58, 3) := by decide +kernel
theorem dX11_net_58 : decode cX11_net 58 = .ok (.invokevirtual 111, 3) := by decide +kernel
theorem dX11_net_61 : decode cX11_net 61 = .ok (.aload_n 0, 1) := by decide +kernel
theorem dX11_net_62 : decode cX11_net 62 = .ok (.getfield 81, 3) := by decide +kernel
theorem dX11_net_65 : decode cX11_net 65 = .ok (.iconst 0, 1) := by decide +kernel
theorem dX11_net_66 : decode cX11_net 66 = .ok (.putfield 114, 3) := by decide +kernel
theorem dX11_net_69 : decode cX11_net 69 = .ok (.aload_n 0, 1) := by decide +kernel
theorem dX11_net_70 : decode cX11_net 70 = .ok (.getfield 12, 3) := by decide +kernel
theorem dX11_net_73 : decode cX11_net 73 = .ok (.iconst 0, 1) := by decide +kernel
theorem dX11_net_74 : decode cX11_net 74 = .ok (.putfield 89, 3) := by decide +kernel
theorem dX11_net_77 : decode cX11_net 77 = .ok (.aload_n 0, 1) := by decide +kernel
theorem dX11_net_78 : decode cX11_net 78 = .ok (.getfield 21, 3) := by decide +kernel
theorem dX11_net_81 : decode cX11_net 81 = .ok (.getfield 115, 3) := by decide +kernel
theorem dX11_net_84 : decode cX11_net 84 = .ok (.ireturn, 1) := by decide +kernel
theorem dX11_link_0 : decode cX11_link 0 = .ok (.aload_n 0, 1) := by decide +kernel
theorem dX11_link_1 : decode cX11_link 1 = .ok (.getfield 35, 3) := by decide +kernel
theorem dX11_link_4 : decode cX11_link 4 = .ok (.getfield 118, 3) := by decide +kernel
theorem dX11_link_7 : decode cX11_link 7 = .ok (.iload_n 1, 1) := by decide +kernel
theorem dX11_link_8 : decode cX11_link 8 = .ok (.invokevirtual 119, 3) := by decide +kernel
theorem dX11_link_11 : decode cX11_link 11 = .ok (.istore_n 3, 1) := by decide +kernel
theorem dX11_link_12 : decode cX11_link 12 = .ok (.iload_n 3, 1) := by decide +kernel
theorem dX11_link_13 : decode cX11_link 13 = .ok (.iconst (-1), 1) := by decide +kernel
theorem dX11_link_14 : decode cX11_link 14 = .ok (.if_icmp .ne 5, 3) := by decide +kernel
theorem dX11_link_17 : decode cX11_link 17 = .ok (.iconst (-1), 1) := by decide +kernel
theorem dX11_link_18 : decode cX11_link 18 = .ok (.ireturn, 1) := by decide +kernel
theorem dX11_link_19 : decode cX11_link 19 = .ok (.iload_n 2, 1) := by decide +kernel
theorem dX11_link_20 : decode cX11_link 20 = .ok (.tableswitch 51 0 2 #[28, 33, 38], 28) := by decide +kernel
theorem dX11_link_48 : decode cX11_link 48 = .ok (.iload_n 3, 1) := by decide +kernel
theorem dX11_link_49 : decode cX11_link 49 = .ok (.bipush 6, 2) := by decide +kernel
theorem dX11_link_51 : decode cX11_link 51 = .ok (.idiv, 1) := by decide +kernel
theorem dX11_link_52 : decode cX11_link 52 = .ok (.ireturn, 1) := by decide +kernel
theorem dX11_link_53 : decode cX11_link 53 = .ok (.iload_n 3, 1) := by decide +kernel
theorem dX11_link_54 : decode cX11_link 54 = .ok (.bipush 6, 2) := by decide +kernel
theorem dX11_link_56 : decode cX11_link 56 = .ok (.irem, 1) := by decide +kernel
theorem dX11_link_57 : decode cX11_link 57 = .ok (.ireturn, 1) := by decide +kernel
theorem dX11_link_58 : decode cX11_link 58 = .ok (.aload_n 0, 1) := by decide +kernel
theorem dX11_link_59 : decode cX11_link 59 = .ok (.getfield 35, 3) := by decide +kernel
theorem dX11_link_62 : decode cX11_link 62 = .ok (.getfield 118, 3) := by decide +kernel
theorem dX11_link_65 : decode cX11_link 65 = .ok (.getfield 125, 3) := by decide +kernel
theorem dX11_link_68 : decode cX11_link 68 = .ok (.iload_n 3, 1) := by decide +kernel
theorem dX11_link_69 : decode cX11_link 69 = .ok (.iaload, 1) := by decide +kernel
theorem dX11_link_70 : decode cX11_link 70 = .ok (.ireturn, 1) := by decide +kernel
theorem dX11_link_71 : decode cX11_link 71 = .ok (.iconst (-1), 1) := by decide +kernel
theorem dX11_link_72 : decode cX11_link 72 = .ok (.ireturn, 1) := by decide +kernel
theorem dX11_sends_0 : decode cX11_sends 0 = .ok (.aload_n 0, 1) := by decide +kernel
theorem dX11_sends_1 : decode cX11_sends 1 = .ok (.iload_n 1, 1) := by decide +kernel
theorem dX11_sends_2 : decode cX11_sends 2 = .ok (.iload_n 2, 1) := by decide +kernel
theorem dX11_sends_3 : decode cX11_sends 3 = .ok (.invokevirtual 129, 3) := by decide +kernel
theorem dX11_sends_6 : decode cX11_sends 6 = .ok (.ifCond .ne 5, 3) := by decide +kernel
theorem dX11_sends_9 : decode cX11_sends 9 = .ok (.iconst (-1), 1) := by decide +kernel
theorem dX11_sends_10 : decode cX11_sends 10 = .ok (.ireturn, 1) := by decide +kernel
theorem dX11_sends_11 : decode cX11_sends 11 = .ok (.aload_n 0, 1) := by decide +kernel
theorem dX11_sends_12 : decode cX11_sends 12 = .ok (.getfield 51, 3) := by decide +kernel
theorem dX11_sends_15 : decode cX11_sends 15 = .ok (.aload_n 0, 1) := by decide +kernel
theorem dX11_sends_16 : decode cX11_sends 16 = .ok (.getfield 35, 3) := by decide +kernel
theorem dX11_sends_19 : decode cX11_sends 19 = .ok (.invokevirtual 133, 3) := by decide +kernel
theorem dX11_sends_22 : decode cX11_sends 22 = .ok (.aload_n 0, 1) := by decide +kernel
theorem dX11_sends_23 : decode cX11_sends 23 = .ok (.getfield 44, 3) := by decide +kernel
theorem dX11_sends_26 : decode cX11_sends 26 = .ok (.iload_n 1, 1) := by decide +kernel
theorem dX11_sends_27 : decode cX11_sends 27 = .ok (.iload_n 2, 1) := by decide +kernel
theorem dX11_sends_28 : decode cX11_sends 28 = .ok (.invokevirtual 137, 3) := by decide +kernel
theorem dX11_sends_31 : decode cX11_sends 31 = .ok (.ireturn, 1) := by decide +kernel
theorem dX11_rounds_0 : decode cX11_rounds 0 = .ok (.iload_n 1, 1) := by decide +kernel
theorem dX11_rounds_1 : decode cX11_rounds 1 = .ok (.iconst 1, 1) := by decide +kernel
theorem dX11_rounds_2 : decode cX11_rounds 2 = .ok (.if_icmp .lt 8, 3) := by decide +kernel
theorem dX11_rounds_5 : decode cX11_rounds 5 = .ok (.iload_n 1, 1) := by decide +kernel
theorem dX11_rounds_6 : decode cX11_rounds 6 = .ok (.iconst 4, 1) := by decide +kernel
theorem dX11_rounds_7 : decode cX11_rounds 7 = .ok (.if_icmp .le 5, 3) := by decide +kernel
theorem dX11_rounds_10 : decode cX11_rounds 10 = .ok (.iconst (-1), 1) := by decide +kernel
theorem dX11_rounds_11 : decode cX11_rounds 11 = .ok (.ireturn, 1) := by decide +kernel
theorem dX11_rounds_12 : decode cX11_rounds 12 = .ok (.aload_n 0, 1) := by decide +kernel
theorem dX11_rounds_13 : decode cX11_rounds 13 = .ok (.getfield 51, 3) := by decide +kernel
theorem dX11_rounds_16 : decode cX11_rounds 16 = .ok (.aload_n 0, 1) := by decide +kernel
theorem dX11_rounds_17 : decode cX11_rounds 17 = .ok (.getfield 35, 3) := by decide +kernel
theorem dX11_rounds_20 : decode cX11_rounds 20 = .ok (.invokevirtual 133, 3) := by decide +kernel
theorem dX11_rounds_23 : decode cX11_rounds 23 = .ok (.iconst 0, 1) := by decide +kernel
theorem dX11_rounds_24 : decode cX11_rounds 24 = .ok (.istore_n 2, 1) := by decide +kernel
theorem dX11_rounds_25 : decode cX11_rounds 25 = .ok (.iconst 0, 1) := by decide +kernel
theorem dX11_rounds_26 : decode cX11_rounds 26 = .ok (.istore_n 3, 1) := by decide +kernel
theorem dX11_rounds_27 : decode cX11_rounds 27 = .ok (.iload_n 3, 1) := by decide +kernel
theorem dX11_rounds_28 : decode cX11_rounds 28 = .ok (.iload_n 1, 1) := by decide +kernel
theorem dX11_rounds_29 : decode cX11_rounds 29 = .ok (.if_icmp .ge 19, 3) := by decide +kernel
theorem dX11_rounds_32 : decode cX11_rounds 32 = .ok (.iload_n 2, 1) := by decide +kernel
theorem dX11_rounds_33 : decode cX11_rounds 33 = .ok (.aload_n 0, 1) := by decide +kernel
theorem dX11_rounds_34 : decode cX11_rounds 34 = .ok (.getfield 44, 3) := by decide +kernel
theorem dX11_rounds_37 : decode cX11_rounds 37 = .ok (.invokevirtual 141, 3) := by decide +kernel
theorem dX11_rounds_40 : decode cX11_rounds 40 = .ok (.iadd, 1) := by decide +kernel
theorem dX11_rounds_41 : decode cX11_rounds 41 = .ok (.istore_n 2, 1) := by decide +kernel
theorem dX11_rounds_42 : decode cX11_rounds 42 = .ok (.iinc 3 1, 3) := by decide +kernel
theorem dX11_rounds_45 : decode cX11_rounds 45 = .ok (.goto (-18), 3) := by decide +kernel
theorem dX11_rounds_48 : decode cX11_rounds 48 = .ok (.iload_n 2, 1) := by decide +kernel
theorem dX11_rounds_49 : decode cX11_rounds 49 = .ok (.ireturn, 1) := by decide +kernel
theorem dX11_cuts_0 : decode cX11_cuts 0 = .ok (.aload_n 0, 1) := by decide +kernel
theorem dX11_cuts_1 : decode cX11_cuts 1 = .ok (.getfield 35, 3) := by decide +kernel
theorem dX11_cuts_4 : decode cX11_cuts 4 = .ok (.getfield 118, 3) := by decide +kernel
theorem dX11_cuts_7 : decode cX11_cuts 7 = .ok (.iload_n 1, 1) := by decide +kernel
theorem dX11_cuts_8 : decode cX11_cuts 8 = .ok (.invokevirtual 119, 3) := by decide +kernel
theorem dX11_cuts_11 : decode cX11_cuts 11 = .ok (.istore_n 2, 1) := by decide +kernel
theorem dX11_cuts_12 : decode cX11_cuts 12 = .ok (.iload_n 2, 1) := by decide +kernel
theorem dX11_cuts_13 : decode cX11_cuts 13 = .ok (.iconst (-1), 1) := by decide +kernel
theorem dX11_cuts_14 : decode cX11_cuts 14 = .ok (.if_icmp .ne 5, 3) := by decide +kernel
theorem dX11_cuts_17 : decode cX11_cuts 17 = .ok (.iconst (-1), 1) := by decide +kernel
theorem dX11_cuts_18 : decode cX11_cuts 18 = .ok (.ireturn, 1) := by decide +kernel
theorem dX11_cuts_19 : decode cX11_cuts 19 = .ok (.aload_n 0, 1) := by decide +kernel
theorem dX11_cuts_20 : decode cX11_cuts 20 = .ok (.getfield 51, 3) := by decide +kernel
theorem dX11_cuts_23 : decode cX11_cuts 23 = .ok (.aload_n 0, 1) := by decide +kernel
theorem dX11_cuts_24 : decode cX11_cuts 24 = .ok (.getfield 35, 3) := by decide +kernel
theorem dX11_cuts_27 : decode cX11_cuts 27 = .ok (.invokevirtual 133, 3) := by decide +kernel
theorem dX11_cuts_30 : decode cX11_cuts 30 = .ok (.aload_n 0, 1) := by decide +kernel
theorem dX11_cuts_31 : decode cX11_cuts 31 = .ok (.getfield 35, 3) := by decide +kernel
theorem dX11_cuts_34 : decode cX11_cuts 34 = .ok (.iload_n 2, 1) := by decide +kernel
theorem dX11_cuts_35 : decode cX11_cuts 35 = .ok (.bipush 6, 2) := by decide +kernel
theorem dX11_cuts_37 : decode cX11_cuts 37 = .ok (.idiv, 1) := by decide +kernel
theorem dX11_cuts_38 : decode cX11_cuts 38 = .ok (.iload_n 2, 1) := by decide +kernel
theorem dX11_cuts_39 : decode cX11_cuts 39 = .ok (.bipush 6, 2) := by decide +kernel
theorem dX11_cuts_41 : decode cX11_cuts 41 = .ok (.irem, 1) := by decide +kernel
theorem dX11_cuts_42 : decode cX11_cuts 42 = .ok (.invokevirtual 144, 3) := by decide +kernel
theorem dX11_cuts_45 : decode cX11_cuts 45 = .ok (.aload_n 0, 1) := by decide +kernel
theorem dX11_cuts_46 : decode cX11_cuts 46 = .ok (.getfield 35, 3) := by decide +kernel
theorem dX11_cuts_49 : decode cX11_cuts 49 = .ok (.getfield 118, 3) := by decide +kernel
theorem dX11_cuts_52 : decode cX11_cuts 52 = .ok (.getfield 148, 3) := by decide +kernel
theorem dX11_cuts_55 : decode cX11_cuts 55 = .ok (.ireturn, 1) := by decide +kernel
theorem dX11_lays_0 : decode cX11_lays 0 = .ok (.aload_n 0, 1) := by decide +kernel
theorem dX11_lays_1 : decode cX11_lays 1 = .ok (.iload_n 1, 1) := by decide +kernel
theorem dX11_lays_2 : decode cX11_lays 2 = .ok (.iload_n 2, 1) := by decide +kernel
theorem dX11_lays_3 : decode cX11_lays 3 = .ok (.invokevirtual 129, 3) := by decide +kernel
theorem dX11_lays_6 : decode cX11_lays 6 = .ok (.ifCond .eq 10, 3) := by decide +kernel
theorem dX11_lays_9 : decode cX11_lays 9 = .ok (.iload_n 3, 1) := by decide +kernel
theorem dX11_lays_10 : decode cX11_lays 10 = .ok (.invokestatic 151, 3) := by decide +kernel
theorem dX11_lays_13 : decode cX11_lays 13 = .ok (.ifCond .ne 5, 3) := by decide +kernel
theorem dX11_lays_16 : decode cX11_lays 16 = .ok (.iconst (-1), 1) := by decide +kernel
theorem dX11_lays_17 : decode cX11_lays 17 = .ok (.ireturn, 1) := by decide +kernel
theorem dX11_lays_18 : decode cX11_lays 18 = .ok (.aload_n 0, 1) := by decide +kernel
theorem dX11_lays_19 : decode cX11_lays 19 = .ok (.getfield 35, 3) := by decide +kernel
theorem dX11_lays_22 : decode cX11_lays 22 = .ok (.getfield 118, 3) := by decide +kernel
theorem dX11_lays_25 : decode cX11_lays 25 = .ok (.iload_n 1, 1) := by decide +kernel
theorem dX11_lays_26 : decode cX11_lays 26 = .ok (.iload_n 2, 1) := by decide +kernel
theorem dX11_lays_27 : decode cX11_lays 27 = .ok (.invokevirtual 154, 3) := by decide +kernel
theorem dX11_lays_30 : decode cX11_lays 30 = .ok (.ifCond .le 6, 3) := by decide +kernel
theorem dX11_lays_33 : decode cX11_lays 33 = .ok (.bipush (-2), 2) := by decide +kernel
theorem dX11_lays_35 : decode cX11_lays 35 = .ok (.ireturn, 1) := by decide +kernel
theorem dX11_lays_36 : decode cX11_lays 36 = .ok (.aload_n 0, 1) := by decide +kernel
theorem dX11_lays_37 : decode cX11_lays 37 = .ok (.getfield 35, 3) := by decide +kernel
theorem dX11_lays_40 : decode cX11_lays 40 = .ok (.getfield 118, 3) := by decide +kernel
theorem dX11_lays_43 : decode cX11_lays 43 = .ok (.getfield 148, 3) := by decide +kernel
theorem dX11_lays_46 : decode cX11_lays 46 = .ok (.bipush 10, 2) := by decide +kernel
theorem dX11_lays_48 : decode cX11_lays 48 = .ok (.if_icmp .lt 6, 3) := by decide +kernel
theorem dX11_lays_51 : decode cX11_lays 51 = .ok (.bipush (-3), 2) := by decide +kernel
theorem dX11_lays_53 : decode cX11_lays 53 = .ok (.ireturn, 1) := by decide +kernel
theorem dX11_lays_54 : decode cX11_lays 54 = .ok (.aload_n 0, 1) := by decide +kernel
theorem dX11_lays_55 : decode cX11_lays 55 = .ok (.getfield 51, 3) := by decide +kernel
theorem dX11_lays_58 : decode cX11_lays 58 = .ok (.aload_n 0, 1) := by decide +kernel
theorem dX11_lays_59 : decode cX11_lays 59 = .ok (.getfield 35, 3) := by decide +kernel
theorem dX11_lays_62 : decode cX11_lays 62 = .ok (.invokevirtual 133, 3) := by decide +kernel
theorem dX11_lays_65 : decode cX11_lays 65 = .ok (.aload_n 0, 1) := by decide +kernel
theorem dX11_lays_66 : decode cX11_lays 66 = .ok (.getfield 35, 3) := by decide +kernel
theorem dX11_lays_69 : decode cX11_lays 69 = .ok (.getfield 118, 3) := by decide +kernel
theorem dX11_lays_72 : decode cX11_lays 72 = .ok (.iload_n 1, 1) := by decide +kernel
theorem dX11_lays_73 : decode cX11_lays 73 = .ok (.iload_n 2, 1) := by decide +kernel
theorem dX11_lays_74 : decode cX11_lays 74 = .ok (.iload_n 3, 1) := by decide +kernel
theorem dX11_lays_75 : decode cX11_lays 75 = .ok (.invokevirtual 157, 3) := by decide +kernel
theorem dX11_lays_78 : decode cX11_lays 78 = .ok (.aload_n 0, 1) := by decide +kernel
theorem dX11_lays_79 : decode cX11_lays 79 = .ok (.getfield 35, 3) := by decide +kernel
theorem dX11_lays_82 : decode cX11_lays 82 = .ok (.getfield 118, 3) := by decide +kernel
theorem dX11_lays_85 : decode cX11_lays 85 = .ok (.getfield 148, 3) := by decide +kernel
theorem dX11_lays_88 : decode cX11_lays 88 = .ok (.ireturn, 1) := by decide +kernel
theorem dX11_changes_0 : decode cX11_changes 0 = .ok (.aload_n 0, 1) := by decide +kernel
theorem dX11_changes_1 : decode cX11_changes 1 = .ok (.getfield 35, 3) := by decide +kernel
theorem dX11_changes_4 : decode cX11_changes 4 = .ok (.getfield 118, 3) := by decide +kernel
theorem dX11_changes_7 : decode cX11_changes 7 = .ok (.iload_n 1, 1) := by decide +kernel
theorem dX11_changes_8 : decode cX11_changes 8 = .ok (.invokevirtual 119, 3) := by decide +kernel
theorem dX11_changes_11 : decode cX11_changes 11 = .ok (.istore_n 3, 1) := by decide +kernel
theorem dX11_changes_12 : decode cX11_changes 12 = .ok (.iload_n 3, 1) := by decide +kernel
theorem dX11_changes_13 : decode cX11_changes 13 = .ok (.iconst (-1), 1) := by decide +kernel
theorem dX11_changes_14 : decode cX11_changes 14 = .ok (.if_icmp .eq 10, 3) := by decide +kernel
theorem dX11_changes_17 : decode cX11_changes 17 = .ok (.iload_n 2, 1) := by decide +kernel
theorem dX11_changes_18 : decode cX11_changes 18 = .ok (.invokestatic 151, 3) := by decide +kernel
theorem dX11_changes_21 : decode cX11_changes 21 = .ok (.ifCond .ne 5, 3) := by decide +kernel
theorem dX11_changes_24 : decode cX11_changes 24 = .ok (.iconst (-1), 1) := by decide +kernel
theorem dX11_changes_25 : decode cX11_changes 25 = .ok (.ireturn, 1) := by decide +kernel
theorem dX11_changes_26 : decode cX11_changes 26 = .ok (.aload_n 0, 1) := by decide +kernel
theorem dX11_changes_27 : decode cX11_changes 27 = .ok (.getfield 35, 3) := by decide +kernel
theorem dX11_changes_30 : decode cX11_changes 30 = .ok (.getfield 118, 3) := by decide +kernel
theorem dX11_changes_33 : decode cX11_changes 33 = .ok (.getfield 125, 3) := by decide +kernel
theorem dX11_changes_36 : decode cX11_changes 36 = .ok (.iload_n 3, 1) := by decide +kernel
theorem dX11_changes_37 : decode cX11_changes 37 = .ok (.iaload, 1) := by decide +kernel
theorem dX11_changes_38 : decode cX11_changes 38 = .ok (.istore 4, 2) := by decide +kernel
theorem dX11_changes_40 : decode cX11_changes 40 = .ok (.iload 4, 2) := by decide +kernel
theorem dX11_changes_42 : decode cX11_changes 42 = .ok (.iload_n 2, 1) := by decide +kernel
theorem dX11_changes_43 : decode cX11_changes 43 = .ok (.if_icmp .ne 6, 3) := by decide +kernel
theorem dX11_changes_46 : decode cX11_changes 46 = .ok (.bipush (-2), 2) := by decide +kernel
theorem dX11_changes_48 : decode cX11_changes 48 = .ok (.ireturn, 1) := by decide +kernel
theorem dX11_changes_49 : decode cX11_changes 49 = .ok (.aload_n 0, 1) := by decide +kernel
theorem dX11_changes_50 : decode cX11_changes 50 = .ok (.getfield 51, 3) := by decide +kernel
theorem dX11_changes_53 : decode cX11_changes 53 = .ok (.aload_n 0, 1) := by decide +kernel
theorem dX11_changes_54 : decode cX11_changes 54 = .ok (.getfield 35, 3) := by decide +kernel
theorem dX11_changes_57 : decode cX11_changes 57 = .ok (.invokevirtual 133, 3) := by decide +kernel
theorem dX11_changes_60 : decode cX11_changes 60 = .ok (.aload_n 0, 1) := by decide +kernel
theorem dX11_changes_61 : decode cX11_changes 61 = .ok (.getfield 35, 3) := by decide +kernel
theorem dX11_changes_64 : decode cX11_changes 64 = .ok (.getfield 118, 3) := by decide +kernel
theorem dX11_changes_67 : decode cX11_changes 67 = .ok (.iload_n 3, 1) := by decide +kernel
theorem dX11_changes_68 : decode cX11_changes 68 = .ok (.bipush 6, 2) := by decide +kernel
theorem dX11_changes_70 : decode cX11_changes 70 = .ok (.idiv, 1) := by decide +kernel
theorem dX11_changes_71 : decode cX11_changes 71 = .ok (.iload_n 3, 1) := by decide +kernel
theorem dX11_changes_72 : decode cX11_changes 72 = .ok (.bipush 6, 2) := by decide +kernel
theorem dX11_changes_74 : decode cX11_changes 74 = .ok (.irem, 1) := by decide +kernel
theorem dX11_changes_75 : decode cX11_changes 75 = .ok (.iload_n 2, 1) := by decide +kernel
theorem dX11_changes_76 : decode cX11_changes 76 = .ok (.invokevirtual 157, 3) := by decide +kernel
theorem dX11_changes_79 : decode cX11_changes 79 = .ok (.iload 4, 2) := by decide +kernel
theorem dX11_changes_81 : decode cX11_changes 81 = .ok (.ireturn, 1) := by decide +kernel
theorem dX11_undo_0 : decode cX11_undo 0 = .ok (.aload_n 0, 1) := by decide +kernel
theorem dX11_undo_1 : decode cX11_undo 1 = .ok (.getfield 51, 3) := by decide +kernel
theorem dX11_undo_4 : decode cX11_undo 4 = .ok (.aload_n 0, 1) := by decide +kernel
theorem dX11_undo_5 : decode cX11_undo 5 = .ok (.getfield 35, 3) := by decide +kernel
theorem dX11_undo_8 : decode cX11_undo 8 = .ok (.invokevirtual 161, 3) := by decide +kernel
theorem dX11_undo_11 : decode cX11_undo 11 = .ok (.ifCond .eq 13, 3) := by decide +kernel
theorem dX11_undo_14 : decode cX11_undo 14 = .ok (.aload_n 0, 1) := by decide +kernel
theorem dX11_undo_15 : decode cX11_undo 15 = .ok (.getfield 51, 3) := by decide +kernel
theorem dX11_undo_18 : decode cX11_undo 18 = .ok (.getfield 110, 3) := by decide +kernel
theorem dX11_undo_21 : decode cX11_undo 21 = .ok (.goto 5, 3) := by decide +kernel
theorem dX11_undo_24 : decode cX11_undo 24 = .ok (.bipush (-2), 2) := by decide +kernel
theorem dX11_undo_26 : decode cX11_undo 26 = .ok (.ireturn, 1) := by decide +kernel
theorem dX11_guess_0 : decode cX11_guess 0 = .ok (.aload_n 0, 1) := by decide +kernel
theorem dX11_guess_1 : decode cX11_guess 1 = .ok (.iload_n 1, 1) := by decide +kernel
theorem dX11_guess_2 : decode cX11_guess 2 = .ok (.iload_n 2, 1) := by decide +kernel
theorem dX11_guess_3 : decode cX11_guess 3 = .ok (.iload_n 3, 1) := by decide +kernel
theorem dX11_guess_4 : decode cX11_guess 4 = .ok (.invokevirtual 165, 3) := by decide +kernel
theorem dX11_guess_7 : decode cX11_guess 7 = .ok (.istore 4, 2) := by decide +kernel
theorem dX11_guess_9 : decode cX11_guess 9 = .ok (.iload 4, 2) := by decide +kernel
theorem dX11_guess_11 : decode cX11_guess 11 = .ok (.ifCond .ne 16, 3) := by decide +kernel
theorem dX11_guess_14 : decode cX11_guess 14 = .ok (.aload_n 0, 1) := by decide +kernel
theorem dX11_guess_15 : decode cX11_guess 15 = .ok (.getfield 44, 3) := by decide +kernel
theorem dX11_guess_18 : decode cX11_guess 18 = .ok (.iload_n 1, 1) := by decide +kernel
theorem dX11_guess_19 : decode cX11_guess 19 = .ok (.iload_n 2, 1) := by decide +kernel
theorem dX11_guess_20 : decode cX11_guess 20 = .ok (.iload_n 3, 1) := by decide +kernel
theorem dX11_guess_21 : decode cX11_guess 21 = .ok (.invokevirtual 169, 3) := by decide +kernel
theorem dX11_guess_24 : decode cX11_guess 24 = .ok (.goto 5, 3) := by decide +kernel
theorem dX11_guess_27 : decode cX11_guess 27 = .ok (.iload 4, 2) := by decide +kernel
theorem dX11_guess_29 : decode cX11_guess 29 = .ok (.ireturn, 1) := by decide +kernel
theorem dX11_mended_0 : decode cX11_mended 0 = .ok (.aload_n 0, 1) := by decide +kernel
theorem dX11_mended_1 : decode cX11_mended 1 = .ok (.iload_n 1, 1) := by decide +kernel
theorem dX11_mended_2 : decode cX11_mended 2 = .ok (.iload_n 2, 1) := by decide +kernel
theorem dX11_mended_3 : decode cX11_mended 3 = .ok (.iload_n 3, 1) := by decide +kernel
theorem dX11_mended_4 : decode cX11_mended 4 = .ok (.invokevirtual 165, 3) := by decide +kernel
theorem dX11_mended_7 : decode cX11_mended 7 = .ok (.istore 4, 2) := by decide +kernel
theorem dX11_mended_9 : decode cX11_mended 9 = .ok (.iload 4, 2) := by decide +kernel
theorem dX11_mended_11 : decode cX11_mended 11 = .ok (.ifCond .eq 6, 3) := by decide +kernel
theorem dX11_mended_14 : decode cX11_mended 14 = .ok (.iload 4, 2) := by decide +kernel
theorem dX11_mended_16 : decode cX11_mended 16 = .ok (.ireturn, 1) := by decide +kernel
theorem dX11_mended_17 : decode cX11_mended 17 = .ok (.aload_n 0, 1) := by decide +kernel
theorem dX11_mended_18 : decode cX11_mended 18 = .ok (.getfield 35, 3) := by decide +kernel
theorem dX11_mended_21 : decode cX11_mended 21 = .ok (.getfield 172, 3) := by decide +kernel
theorem dX11_mended_24 : decode cX11_mended 24 = .ok (.iload_n 1, 1) := by decide +kernel
theorem dX11_mended_25 : decode cX11_mended 25 = .ok (.iload_n 2, 1) := by decide +kernel
theorem dX11_mended_26 : decode cX11_mended 26 = .ok (.iload_n 3, 1) := by decide +kernel
theorem dX11_mended_27 : decode cX11_mended 27 = .ok (.invokestatic 175, 3) := by decide +kernel
theorem dX11_mended_30 : decode cX11_mended 30 = .ok (.iaload, 1) := by decide +kernel
theorem dX11_mended_31 : decode cX11_mended 31 = .ok (.istore 5, 2) := by decide +kernel
theorem dX11_mended_33 : decode cX11_mended 33 = .ok (.iload 5, 2) := by decide +kernel
theorem dX11_mended_35 : decode cX11_mended 35 = .ok (.ifCond .ne 8, 3) := by decide +kernel
theorem dX11_mended_38 : decode cX11_mended 38 = .ok (.bipush (-9), 2) := by decide +kernel
theorem dX11_mended_40 : decode cX11_mended 40 = .ok (.goto 5, 3) := by decide +kernel
theorem dX11_mended_43 : decode cX11_mended 43 = .ok (.iload 5, 2) := by decide +kernel
theorem dX11_mended_45 : decode cX11_mended 45 = .ok (.ireturn, 1) := by decide +kernel
theorem dX11_best_0 : decode cX11_best 0 = .ok (.aload_n 0, 1) := by decide +kernel
theorem dX11_best_1 : decode cX11_best 1 = .ok (.iload_n 1, 1) := by decide +kernel
theorem dX11_best_2 : decode cX11_best 2 = .ok (.iload_n 2, 1) := by decide +kernel
theorem dX11_best_3 : decode cX11_best 3 = .ok (.invokevirtual 129, 3) := by decide +kernel
theorem dX11_best_6 : decode cX11_best 6 = .ok (.ifCond .eq 15, 3) := by decide +kernel
theorem dX11_best_9 : decode cX11_best 9 = .ok (.aload_n 0, 1) := by decide +kernel
theorem dX11_best_10 : decode cX11_best 10 = .ok (.getfield 44, 3) := by decide +kernel
theorem dX11_best_13 : decode cX11_best 13 = .ok (.iload_n 1, 1) := by decide +kernel
theorem dX11_best_14 : decode cX11_best 14 = .ok (.iload_n 2, 1) := by decide +kernel
theorem dX11_best_15 : decode cX11_best 15 = .ok (.invokevirtual 178, 3) := by decide +kernel
theorem dX11_best_18 : decode cX11_best 18 = .ok (.goto 4, 3) := by decide +kernel
theorem dX11_best_21 : decode cX11_best 21 = .ok (.iconst (-1), 1) := by decide +kernel
theorem dX11_best_22 : decode cX11_best 22 = .ok (.ireturn, 1) := by decide +kernel
theorem dX11_node_0 : decode cX11_node 0 = .ok (.aload_n 0, 1) := by decide +kernel
theorem dX11_node_1 : decode cX11_node 1 = .ok (.iload_n 1, 1) := by decide +kernel
theorem dX11_node_2 : decode cX11_node 2 = .ok (.invokevirtual 181, 3) := by decide +kernel
theorem dX11_node_5 : decode cX11_node 5 = .ok (.ifCond .ne 5, 3) := by decide +kernel
theorem dX11_node_8 : decode cX11_node 8 = .ok (.iconst (-1), 1) := by decide +kernel
theorem dX11_node_9 : decode cX11_node 9 = .ok (.ireturn, 1) := by decide +kernel
theorem dX11_node_10 : decode cX11_node 10 = .ok (.iload_n 2, 1) := by decide +kernel
theorem dX11_node_11 : decode cX11_node 11 = .ok (.tableswitch 57 0 2 #[25, 35, 45], 25) := by decide +kernel
theorem dX11_node_36 : decode cX11_node 36 = .ok (.aload_n 0, 1) := by decide +kernel
theorem dX11_node_37 : decode cX11_node 37 = .ok (.getfield 35, 3) := by decide +kernel
theorem dX11_node_40 : decode cX11_node 40 = .ok (.getfield 184, 3) := by decide +kernel
theorem dX11_node_43 : decode cX11_node 43 = .ok (.iload_n 1, 1) := by decide +kernel
theorem dX11_node_44 : decode cX11_node 44 = .ok (.iaload, 1) := by decide +kernel
theorem dX11_node_45 : decode cX11_node 45 = .ok (.ireturn, 1) := by decide +kernel
theorem dX11_node_46 : decode cX11_node 46 = .ok (.aload_n 0, 1) := by decide +kernel
theorem dX11_node_47 : decode cX11_node 47 = .ok (.getfield 35, 3) := by decide +kernel
theorem dX11_node_50 : decode cX11_node 50 = .ok (.getfield 187, 3) := by decide +kernel
theorem dX11_node_53 : decode cX11_node 53 = .ok (.iload_n 1, 1) := by decide +kernel
theorem dX11_node_54 : decode cX11_node 54 = .ok (.iaload, 1) := by decide +kernel
theorem dX11_node_55 : decode cX11_node 55 = .ok (.ireturn, 1) := by decide +kernel
theorem dX11_node_56 : decode cX11_node 56 = .ok (.aload_n 0, 1) := by decide +kernel
theorem dX11_node_57 : decode cX11_node 57 = .ok (.getfield 35, 3) := by decide +kernel
theorem dX11_node_60 : decode cX11_node 60 = .ok (.getfield 118, 3) := by decide +kernel
theorem dX11_node_63 : decode cX11_node 63 = .ok (.iload_n 1, 1) := by decide +kernel
theorem dX11_node_64 : decode cX11_node 64 = .ok (.invokevirtual 190, 3) := by decide +kernel
theorem dX11_node_67 : decode cX11_node 67 = .ok (.ireturn, 1) := by decide +kernel
theorem dX11_node_68 : decode cX11_node 68 = .ok (.iconst (-1), 1) := by decide +kernel
theorem dX11_node_69 : decode cX11_node 69 = .ok (.ireturn, 1) := by decide +kernel
theorem dX11_used_0 : decode cX11_used 0 = .ok (.aload_n 0, 1) := by decide +kernel
theorem dX11_used_1 : decode cX11_used 1 = .ok (.getfield 35, 3) := by decide +kernel
theorem dX11_used_4 : decode cX11_used 4 = .ok (.getfield 118, 3) := by decide +kernel
theorem dX11_used_7 : decode cX11_used 7 = .ok (.iload_n 1, 1) := by decide +kernel
theorem dX11_used_8 : decode cX11_used 8 = .ok (.invokevirtual 119, 3) := by decide +kernel
theorem dX11_used_11 : decode cX11_used 11 = .ok (.istore_n 2, 1) := by decide +kernel
theorem dX11_used_12 : decode cX11_used 12 = .ok (.iload_n 2, 1) := by decide +kernel
theorem dX11_used_13 : decode cX11_used 13 = .ok (.iconst (-1), 1) := by decide +kernel
theorem dX11_used_14 : decode cX11_used 14 = .ok (.if_icmp .ne 7, 3) := by decide +kernel
theorem dX11_used_17 : decode cX11_used 17 = .ok (.iconst (-1), 1) := by decide +kernel
theorem dX11_used_18 : decode cX11_used 18 = .ok (.goto 12, 3) := by decide +kernel
theorem dX11_used_21 : decode cX11_used 21 = .ok (.aload_n 0, 1) := by decide +kernel
theorem dX11_used_22 : decode cX11_used 22 = .ok (.getfield 35, 3) := by decide +kernel
theorem dX11_used_25 : decode cX11_used 25 = .ok (.getfield 193, 3) := by decide +kernel
theorem dX11_used_28 : decode cX11_used 28 = .ok (.iload_n 2, 1) := by decide +kernel
theorem dX11_used_29 : decode cX11_used 29 = .ok (.iaload, 1) := by decide +kernel
theorem dX11_used_30 : decode cX11_used 30 = .ok (.ireturn, 1) := by decide +kernel
theorem dX11_way_0 : decode cX11_way 0 = .ok (.iload_n 1, 1) := by decide +kernel
theorem dX11_way_1 : decode cX11_way 1 = .ok (.iconst (-1), 1) := by decide +kernel
theorem dX11_way_2 : decode cX11_way 2 = .ok (.if_icmp .ge 5, 3) := by decide +kernel
theorem dX11_way_5 : decode cX11_way 5 = .ok (.iconst (-1), 1) := by decide +kernel
theorem dX11_way_6 : decode cX11_way 6 = .ok (.ireturn, 1) := by decide +kernel
theorem dX11_way_7 : decode cX11_way 7 = .ok (.iload_n 1, 1) := by decide +kernel
theorem dX11_way_8 : decode cX11_way 8 = .ok (.aload_n 0, 1) := by decide +kernel
theorem dX11_way_9 : decode cX11_way 9 = .ok (.getfield 35, 3) := by decide +kernel
theorem dX11_way_12 : decode cX11_way 12 = .ok (.getfield 196, 3) := by decide +kernel
theorem dX11_way_15 : decode cX11_way 15 = .ok (.if_icmp .ge 13, 3) := by decide +kernel
theorem dX11_way_18 : decode cX11_way 18 = .ok (.aload_n 0, 1) := by decide +kernel
theorem dX11_way_19 : decode cX11_way 19 = .ok (.getfield 35, 3) := by decide +kernel
theorem dX11_way_22 : decode cX11_way 22 = .ok (.getfield 196, 3) := by decide +kernel
theorem dX11_way_25 : decode cX11_way 25 = .ok (.ifCond .ne 6, 3) := by decide +kernel
theorem dX11_way_28 : decode cX11_way 28 = .ok (.bipush (-9), 2) := by decide +kernel
theorem dX11_way_30 : decode cX11_way 30 = .ok (.ireturn, 1) := by decide +kernel
theorem dX11_way_31 : decode cX11_way 31 = .ok (.iload_n 1, 1) := by decide +kernel
theorem dX11_way_32 : decode cX11_way 32 = .ok (.iconst (-1), 1) := by decide +kernel
theorem dX11_way_33 : decode cX11_way 33 = .ok (.if_icmp .ne 15, 3) := by decide +kernel
theorem dX11_way_36 : decode cX11_way 36 = .ok (.aload_n 0, 1) := by decide +kernel
theorem dX11_way_37 : decode cX11_way 37 = .ok (.getfield 35, 3) := by decide +kernel
theorem dX11_way_40 : decode cX11_way 40 = .ok (.getfield 196, 3) := by decide +kernel
theorem dX11_way_43 : decode cX11_way 43 = .ok (.iconst 1, 1) := by decide +kernel
theorem dX11_way_44 : decode cX11_way 44 = .ok (.isub, 1) := by decide +kernel
theorem dX11_way_45 : decode cX11_way 45 = .ok (.goto 12, 3) := by decide +kernel
theorem dX11_way_48 : decode cX11_way 48 = .ok (.aload_n 0, 1) := by decide +kernel
theorem dX11_way_49 : decode cX11_way 49 = .ok (.getfield 35, 3) := by decide +kernel
theorem dX11_way_52 : decode cX11_way 52 = .ok (.getfield 199, 3) := by decide +kernel
theorem dX11_way_55 : decode cX11_way 55 = .ok (.iload_n 1, 1) := by decide +kernel
theorem dX11_way_56 : decode cX11_way 56 = .ok (.iaload, 1) := by decide +kernel
theorem dX11_way_57 : decode cX11_way 57 = .ok (.ireturn, 1) := by decide +kernel
theorem dX11_path_0 : decode cX11_path 0 = .ok (.aload_n 0, 1) := by decide +kernel
theorem dX11_path_1 : decode cX11_path 1 = .ok (.iload_n 1, 1) := by decide +kernel
theorem dX11_path_2 : decode cX11_path 2 = .ok (.iload_n 2, 1) := by decide +kernel
theorem dX11_path_3 : decode cX11_path 3 = .ok (.invokevirtual 129, 3) := by decide +kernel
theorem dX11_path_6 : decode cX11_path 6 = .ok (.ifCond .eq 8, 3) := by decide +kernel
theorem dX11_path_9 : decode cX11_path 9 = .ok (.iload_n 3, 1) := by decide +kernel
theorem dX11_path_10 : decode cX11_path 10 = .ok (.iconst (-1), 1) := by decide +kernel
theorem dX11_path_11 : decode cX11_path 11 = .ok (.if_icmp .ge 5, 3) := by decide +kernel
theorem dX11_path_14 : decode cX11_path 14 = .ok (.iconst (-1), 1) := by decide +kernel
theorem dX11_path_15 : decode cX11_path 15 = .ok (.ireturn, 1) := by decide +kernel
theorem dX11_path_16 : decode cX11_path 16 = .ok (.aload_n 0, 1) := by decide +kernel
theorem dX11_path_17 : decode cX11_path 17 = .ok (.getfield 67, 3) := by decide +kernel
theorem dX11_path_20 : decode cX11_path 20 = .ok (.iload_n 1, 1) := by decide +kernel
theorem dX11_path_21 : decode cX11_path 21 = .ok (.iload_n 2, 1) := by decide +kernel
theorem dX11_path_22 : decode cX11_path 22 = .ok (.invokevirtual 202, 3) := by decide +kernel
theorem dX11_path_25 : decode cX11_path 25 = .ok (.pop, 1) := by decide +kernel
theorem dX11_path_26 : decode cX11_path 26 = .ok (.iload_n 3, 1) := by decide +kernel
theorem dX11_path_27 : decode cX11_path 27 = .ok (.iconst (-1), 1) := by decide +kernel
theorem dX11_path_28 : decode cX11_path 28 = .ok (.if_icmp .ne 11, 3) := by decide +kernel
theorem dX11_path_31 : decode cX11_path 31 = .ok (.aload_n 0, 1) := by decide +kernel
theorem dX11_path_32 : decode cX11_path 32 = .ok (.getfield 67, 3) := by decide +kernel
theorem dX11_path_35 : decode cX11_path 35 = .ok (.getfield 205, 3) := by decide +kernel
theorem dX11_path_38 : decode cX11_path 38 = .ok (.ireturn, 1) := by decide +kernel
theorem dX11_path_39 : decode cX11_path 39 = .ok (.iload_n 3, 1) := by decide +kernel
theorem dX11_path_40 : decode cX11_path 40 = .ok (.aload_n 0, 1) := by decide +kernel
theorem dX11_path_41 : decode cX11_path 41 = .ok (.getfield 67, 3) := by decide +kernel
theorem dX11_path_44 : decode cX11_path 44 = .ok (.getfield 205, 3) := by decide +kernel
theorem dX11_path_47 : decode cX11_path 47 = .ok (.if_icmp .ge 15, 3) := by decide +kernel
theorem dX11_path_50 : decode cX11_path 50 = .ok (.aload_n 0, 1) := by decide +kernel
theorem dX11_path_51 : decode cX11_path 51 = .ok (.getfield 67, 3) := by decide +kernel
theorem dX11_path_54 : decode cX11_path 54 = .ok (.getfield 206, 3) := by decide +kernel
theorem dX11_path_57 : decode cX11_path 57 = .ok (.iload_n 3, 1) := by decide +kernel
theorem dX11_path_58 : decode cX11_path 58 = .ok (.iaload, 1) := by decide +kernel
theorem dX11_path_59 : decode cX11_path 59 = .ok (.goto 5, 3) := by decide +kernel
theorem dX11_path_62 : decode cX11_path 62 = .ok (.bipush (-9), 2) := by decide +kernel
theorem dX11_path_64 : decode cX11_path 64 = .ok (.ireturn, 1) := by decide +kernel
theorem dX11_astray_0 : decode cX11_astray 0 = .ok (.aload_n 0, 1) := by decide +kernel
theorem dX11_astray_1 : decode cX11_astray 1 = .ok (.iload_n 1, 1) := by decide +kernel
theorem dX11_astray_2 : decode cX11_astray 2 = .ok (.invokevirtual 181, 3) := by decide +kernel
theorem dX11_astray_5 : decode cX11_astray 5 = .ok (.ifCond .ne 5, 3) := by decide +kernel
theorem dX11_astray_8 : decode cX11_astray 8 = .ok (.iconst (-1), 1) := by decide +kernel
theorem dX11_astray_9 : decode cX11_astray 9 = .ok (.ireturn, 1) := by decide +kernel
theorem dX11_astray_10 : decode cX11_astray 10 = .ok (.iconst 0, 1) := by decide +kernel
theorem dX11_astray_11 : decode cX11_astray 11 = .ok (.istore_n 2, 1) := by decide +kernel
theorem dX11_astray_12 : decode cX11_astray 12 = .ok (.iconst 0, 1) := by decide +kernel
theorem dX11_astray_13 : decode cX11_astray 13 = .ok (.istore_n 3, 1) := by decide +kernel
theorem dX11_astray_14 : decode cX11_astray 14 = .ok (.iload_n 3, 1) := by decide +kernel
theorem dX11_astray_15 : decode cX11_astray 15 = .ok (.aload_n 0, 1) := by decide +kernel
theorem dX11_astray_16 : decode cX11_astray 16 = .ok (.getfield 28, 3) := by decide +kernel
theorem dX11_astray_19 : decode cX11_astray 19 = .ok (.getfield 209, 3) := by decide +kernel
theorem dX11_astray_22 : decode cX11_astray 22 = .ok (.if_icmp .ge 29, 3) := by decide +kernel
theorem dX11_astray_25 : decode cX11_astray 25 = .ok (.iload_n 3, 1) := by decide +kernel
theorem dX11_astray_26 : decode cX11_astray 26 = .ok (.iload_n 1, 1) := by decide +kernel
theorem dX11_astray_27 : decode cX11_astray 27 = .ok (.if_icmp .eq 18, 3) := by decide +kernel
theorem dX11_astray_30 : decode cX11_astray 30 = .ok (.aload_n 0, 1) := by decide +kernel
theorem dX11_astray_31 : decode cX11_astray 31 = .ok (.getfield 67, 3) := by decide +kernel
theorem dX11_astray_34 : decode cX11_astray 34 = .ok (.iload_n 3, 1) := by decide +kernel
theorem dX11_astray_35 : decode cX11_astray 35 = .ok (.iload_n 1, 1) := by decide +kernel
theorem dX11_astray_36 : decode cX11_astray 36 = .ok (.invokevirtual 202, 3) := by decide +kernel
theorem dX11_astray_39 : decode cX11_astray 39 = .ok (.ifCond .ne 6, 3) := by decide +kernel
theorem dX11_astray_42 : decode cX11_astray 42 = .ok (.iinc 2 1, 3) := by decide +kernel
theorem dX11_astray_45 : decode cX11_astray 45 = .ok (.iinc 3 1, 3) := by decide +kernel
theorem dX11_astray_48 : decode cX11_astray 48 = .ok (.goto (-34), 3) := by decide +kernel
theorem dX11_astray_51 : decode cX11_astray 51 = .ok (.iload_n 2, 1) := by decide +kernel
theorem dX11_astray_52 : decode cX11_astray 52 = .ok (.ireturn, 1) := by decide +kernel
theorem dX11_least_0 : decode cX11_least 0 = .ok (.aload_n 0, 1) := by decide +kernel
theorem dX11_least_1 : decode cX11_least 1 = .ok (.iload_n 1, 1) := by decide +kernel
theorem dX11_least_2 : decode cX11_least 2 = .ok (.invokevirtual 181, 3) := by decide +kernel
theorem dX11_least_5 : decode cX11_least 5 = .ok (.ifCond .eq 11, 3) := by decide +kernel
theorem dX11_least_8 : decode cX11_least 8 = .ok (.aload_n 0, 1) := by decide +kernel
theorem dX11_least_9 : decode cX11_least 9 = .ok (.iload_n 2, 1) := by decide +kernel
theorem dX11_least_10 : decode cX11_least 10 = .ok (.invokevirtual 181, 3) := by decide +kernel
theorem dX11_least_13 : decode cX11_least 13 = .ok (.ifCond .ne 5, 3) := by decide +kernel
theorem dX11_least_16 : decode cX11_least 16 = .ok (.iconst (-1), 1) := by decide +kernel
theorem dX11_least_17 : decode cX11_least 17 = .ok (.ireturn, 1) := by decide +kernel
theorem dX11_least_18 : decode cX11_least 18 = .ok (.aload_n 0, 1) := by decide +kernel
theorem dX11_least_19 : decode cX11_least 19 = .ok (.getfield 74, 3) := by decide +kernel
theorem dX11_least_22 : decode cX11_least 22 = .ok (.aload_n 0, 1) := by decide +kernel
theorem dX11_least_23 : decode cX11_least 23 = .ok (.getfield 35, 3) := by decide +kernel
theorem dX11_least_26 : decode cX11_least 26 = .ok (.getfield 118, 3) := by decide +kernel
theorem dX11_least_29 : decode cX11_least 29 = .ok (.aload_n 0, 1) := by decide +kernel
theorem dX11_least_30 : decode cX11_least 30 = .ok (.getfield 28, 3) := by decide +kernel
theorem dX11_least_33 : decode cX11_least 33 = .ok (.getfield 209, 3) := by decide +kernel
theorem dX11_least_36 : decode cX11_least 36 = .ok (.iconst (-1), 1) := by decide +kernel
theorem dX11_least_37 : decode cX11_least 37 = .ok (.invokevirtual 211, 3) := by decide +kernel
theorem dX11_least_40 : decode cX11_least 40 = .ok (.aload_n 0, 1) := by decide +kernel
theorem dX11_least_41 : decode cX11_least 41 = .ok (.getfield 74, 3) := by decide +kernel
theorem dX11_least_44 : decode cX11_least 44 = .ok (.iload_n 1, 1) := by decide +kernel
theorem dX11_least_45 : decode cX11_least 45 = .ok (.iload_n 2, 1) := by decide +kernel
theorem dX11_least_46 : decode cX11_least 46 = .ok (.invokevirtual 215, 3) := by decide +kernel
theorem dX11_least_49 : decode cX11_least 49 = .ok (.ireturn, 1) := by decide +kernel
theorem dX11_right_0 : decode cX11_right 0 = .ok (.aload_n 0, 1) := by decide +kernel
theorem dX11_right_1 : decode cX11_right 1 = .ok (.getfield 74, 3) := by decide +kernel
theorem dX11_right_4 : decode cX11_right 4 = .ok (.aload_n 0, 1) := by decide +kernel
theorem dX11_right_5 : decode cX11_right 5 = .ok (.getfield 35, 3) := by decide +kernel
theorem dX11_right_8 : decode cX11_right 8 = .ok (.getfield 118, 3) := by decide +kernel
theorem dX11_right_11 : decode cX11_right 11 = .ok (.aload_n 0, 1) := by decide +kernel
theorem dX11_right_12 : decode cX11_right 12 = .ok (.getfield 28, 3) := by decide +kernel
theorem dX11_right_15 : decode cX11_right 15 = .ok (.getfield 209, 3) := by decide +kernel
theorem dX11_right_18 : decode cX11_right 18 = .ok (.iconst (-1), 1) := by decide +kernel
theorem dX11_right_19 : decode cX11_right 19 = .ok (.invokevirtual 211, 3) := by decide +kernel
theorem dX11_right_22 : decode cX11_right 22 = .ok (.iconst 0, 1) := by decide +kernel
theorem dX11_right_23 : decode cX11_right 23 = .ok (.istore_n 1, 1) := by decide +kernel
theorem dX11_right_24 : decode cX11_right 24 = .ok (.iconst 0, 1) := by decide +kernel
theorem dX11_right_25 : decode cX11_right 25 = .ok (.istore_n 2, 1) := by decide +kernel
theorem dX11_right_26 : decode cX11_right 26 = .ok (.iload_n 2, 1) := by decide +kernel
theorem dX11_right_27 : decode cX11_right 27 = .ok (.aload_n 0, 1) := by decide +kernel
theorem dX11_right_28 : decode cX11_right 28 = .ok (.getfield 28, 3) := by decide +kernel
theorem dX11_right_31 : decode cX11_right 31 = .ok (.getfield 209, 3) := by decide +kernel
theorem dX11_right_34 : decode cX11_right 34 = .ok (.if_icmp .ge 67, 3) := by decide +kernel
theorem dX11_right_37 : decode cX11_right 37 = .ok (.iconst 0, 1) := by decide +kernel
theorem dX11_right_38 : decode cX11_right 38 = .ok (.istore_n 3, 1) := by decide +kernel
theorem dX11_right_39 : decode cX11_right 39 = .ok (.iload_n 3, 1) := by decide +kernel
theorem dX11_right_40 : decode cX11_right 40 = .ok (.aload_n 0, 1) := by decide +kernel
theorem dX11_right_41 : decode cX11_right 41 = .ok (.getfield 28, 3) := by decide +kernel
theorem dX11_right_44 : decode cX11_right 44 = .ok (.getfield 209, 3) := by decide +kernel
theorem dX11_right_47 : decode cX11_right 47 = .ok (.if_icmp .ge 48, 3) := by decide +kernel
theorem dX11_right_50 : decode cX11_right 50 = .ok (.iload_n 2, 1) := by decide +kernel
theorem dX11_right_51 : decode cX11_right 51 = .ok (.iload_n 3, 1) := by decide +kernel
theorem dX11_right_52 : decode cX11_right 52 = .ok (.if_icmp .eq 37, 3) := by decide +kernel
theorem dX11_right_55 : decode cX11_right 55 = .ok (.aload_n 0, 1) := by decide +kernel
theorem dX11_right_56 : decode cX11_right 56 = .ok (.getfield 67, 3) := by decide +kernel
theorem dX11_right_59 : decode cX11_right 59 = .ok (.iload_n 2, 1) := by decide +kernel
theorem dX11_right_60 : decode cX11_right 60 = .ok (.iload_n 3, 1) := by decide +kernel
theorem dX11_right_61 : decode cX11_right 61 = .ok (.invokevirtual 202, 3) := by decide +kernel
theorem dX11_right_64 : decode cX11_right 64 = .ok (.ifCond .eq 25, 3) := by decide +kernel
theorem dX11_right_67 : decode cX11_right 67 = .ok (.aload_n 0, 1) := by decide +kernel
theorem dX11_right_68 : decode cX11_right 68 = .ok (.getfield 67, 3) := by decide +kernel
theorem dX11_right_71 : decode cX11_right 71 = .ok (.getfield 218, 3) := by decide +kernel
theorem dX11_right_74 : decode cX11_right 74 = .ok (.aload_n 0, 1) := by decide +kernel
theorem dX11_right_75 : decode cX11_right 75 = .ok (.getfield 74, 3) := by decide +kernel
theorem dX11_right_78 : decode cX11_right 78 = .ok (.iload_n 2, 1) := by decide +kernel
theorem dX11_right_79 : decode cX11_right 79 = .ok (.iload_n 3, 1) := by decide +kernel
theorem dX11_right_80 : decode cX11_right 80 = .ok (.invokevirtual 215, 3) := by decide +kernel
theorem dX11_right_83 : decode cX11_right 83 = .ok (.if_icmp .ne 6, 3) := by decide +kernel
theorem dX11_right_86 : decode cX11_right 86 = .ok (.iinc 1 1, 3) := by decide +kernel
theorem dX11_right_89 : decode cX11_right 89 = .ok (.iinc 3 1, 3) := by decide +kernel
theorem dX11_right_92 : decode cX11_right 92 = .ok (.goto (-53), 3) := by decide +kernel
theorem dX11_right_95 : decode cX11_right 95 = .ok (.iinc 2 1, 3) := by decide +kernel
theorem dX11_right_98 : decode cX11_right 98 = .ok (.goto (-72), 3) := by decide +kernel
theorem dX11_right_101 : decode cX11_right 101 = .ok (.iload_n 1, 1) := by decide +kernel
theorem dX11_right_102 : decode cX11_right 102 = .ok (.ireturn, 1) := by decide +kernel
theorem dX11_hurt_0 : decode cX11_hurt 0 = .ok (.aload_n 0, 1) := by decide +kernel
theorem dX11_hurt_1 : decode cX11_hurt 1 = .ok (.getfield 35, 3) := by decide +kernel
theorem dX11_hurt_4 : decode cX11_hurt 4 = .ok (.getfield 118, 3) := by decide +kernel
theorem dX11_hurt_7 : decode cX11_hurt 7 = .ok (.iload_n 1, 1) := by decide +kernel
theorem dX11_hurt_8 : decode cX11_hurt 8 = .ok (.invokevirtual 119, 3) := by decide +kernel
theorem dX11_hurt_11 : decode cX11_hurt 11 = .ok (.istore_n 2, 1) := by decide +kernel
theorem dX11_hurt_12 : decode cX11_hurt 12 = .ok (.iload_n 2, 1) := by decide +kernel
theorem dX11_hurt_13 : decode cX11_hurt 13 = .ok (.iconst (-1), 1) := by decide +kernel
theorem dX11_hurt_14 : decode cX11_hurt 14 = .ok (.if_icmp .ne 7, 3) := by decide +kernel
theorem dX11_hurt_17 : decode cX11_hurt 17 = .ok (.iconst (-1), 1) := by decide +kernel
theorem dX11_hurt_18 : decode cX11_hurt 18 = .ok (.goto 8, 3) := by decide +kernel
theorem dX11_hurt_21 : decode cX11_hurt 21 = .ok (.aload_n 0, 1) := by decide +kernel
theorem dX11_hurt_22 : decode cX11_hurt 22 = .ok (.iload_n 2, 1) := by decide +kernel
theorem dX11_hurt_23 : decode cX11_hurt 23 = .ok (.invokevirtual 220, 3) := by decide +kernel
theorem dX11_hurt_26 : decode cX11_hurt 26 = .ok (.ireturn, 1) := by decide +kernel
theorem dX11_worst_0 : decode cX11_worst 0 = .ok (.bipush (-9), 2) := by decide +kernel
theorem dX11_worst_2 : decode cX11_worst 2 = .ok (.istore_n 1, 1) := by decide +kernel
theorem dX11_worst_3 : decode cX11_worst 3 = .ok (.iconst 0, 1) := by decide +kernel
theorem dX11_worst_4 : decode cX11_worst 4 = .ok (.istore_n 2, 1) := by decide +kernel
theorem dX11_worst_5 : decode cX11_worst 5 = .ok (.iconst 0, 1) := by decide +kernel
theorem dX11_worst_6 : decode cX11_worst 6 = .ok (.istore_n 3, 1) := by decide +kernel
theorem dX11_worst_7 : decode cX11_worst 7 = .ok (.iload_n 3, 1) := by decide +kernel
theorem dX11_worst_8 : decode cX11_worst 8 = .ok (.aload_n 0, 1) := by decide +kernel
theorem dX11_worst_9 : decode cX11_worst 9 = .ok (.getfield 35, 3) := by decide +kernel
theorem dX11_worst_12 : decode cX11_worst 12 = .ok (.getfield 118, 3) := by decide +kernel
theorem dX11_worst_15 : decode cX11_worst 15 = .ok (.getfield 148, 3) := by decide +kernel
theorem dX11_worst_18 : decode cX11_worst 18 = .ok (.if_icmp .ge 43, 3) := by decide +kernel
theorem dX11_worst_21 : decode cX11_worst 21 = .ok (.aload_n 0, 1) := by decide +kernel
theorem dX11_worst_22 : decode cX11_worst 22 = .ok (.aload_n 0, 1) := by decide +kernel
theorem dX11_worst_23 : decode cX11_worst 23 = .ok (.getfield 35, 3) := by decide +kernel
theorem dX11_worst_26 : decode cX11_worst 26 = .ok (.getfield 118, 3) := by decide +kernel
theorem dX11_worst_29 : decode cX11_worst 29 = .ok (.iload_n 3, 1) := by decide +kernel
theorem dX11_worst_30 : decode cX11_worst 30 = .ok (.invokevirtual 119, 3) := by decide +kernel
theorem dX11_worst_33 : decode cX11_worst 33 = .ok (.invokevirtual 220, 3) := by decide +kernel
theorem dX11_worst_36 : decode cX11_worst 36 = .ok (.istore 4, 2) := by decide +kernel
theorem dX11_worst_38 : decode cX11_worst 38 = .ok (.iload_n 1, 1) := by decide +kernel
theorem dX11_worst_39 : decode cX11_worst 39 = .ok (.bipush (-9), 2) := by decide +kernel
theorem dX11_worst_41 : decode cX11_worst 41 = .ok (.if_icmp .eq 9, 3) := by decide +kernel
theorem dX11_worst_44 : decode cX11_worst 44 = .ok (.iload 4, 2) := by decide +kernel
theorem dX11_worst_46 : decode cX11_worst 46 = .ok (.iload_n 2, 1) := by decide +kernel
theorem dX11_worst_47 : decode cX11_worst 47 = .ok (.if_icmp .le 8, 3) := by decide +kernel
theorem dX11_worst_50 : decode cX11_worst 50 = .ok (.iload_n 3, 1) := by decide +kernel
theorem dX11_worst_51 : decode cX11_worst 51 = .ok (.istore_n 1, 1) := by decide +kernel
theorem dX11_worst_52 : decode cX11_worst 52 = .ok (.iload 4, 2) := by decide +kernel
theorem dX11_worst_54 : decode cX11_worst 54 = .ok (.istore_n 2, 1) := by decide +kernel
theorem dX11_worst_55 : decode cX11_worst 55 = .ok (.iinc 3 1, 3) := by decide +kernel
theorem dX11_worst_58 : decode cX11_worst 58 = .ok (.goto (-51), 3) := by decide +kernel
theorem dX11_worst_61 : decode cX11_worst 61 = .ok (.iload_n 1, 1) := by decide +kernel
theorem dX11_worst_62 : decode cX11_worst 62 = .ok (.ireturn, 1) := by decide +kernel
theorem dX11_sees_0 : decode cX11_sees 0 = .ok (.aload_n 0, 1) := by decide +kernel
theorem dX11_sees_1 : decode cX11_sees 1 = .ok (.iload_n 1, 1) := by decide +kernel
theorem dX11_sees_2 : decode cX11_sees 2 = .ok (.iload_n 2, 1) := by decide +kernel
theorem dX11_sees_3 : decode cX11_sees 3 = .ok (.invokevirtual 129, 3) := by decide +kernel
theorem dX11_sees_6 : decode cX11_sees 6 = .ok (.ifCond .eq 13, 3) := by decide +kernel
theorem dX11_sees_9 : decode cX11_sees 9 = .ok (.iload_n 3, 1) := by decide +kernel
theorem dX11_sees_10 : decode cX11_sees 10 = .ok (.ifCond .lt 9, 3) := by decide +kernel
theorem dX11_sees_13 : decode cX11_sees 13 = .ok (.iload_n 3, 1) := by decide +kernel
theorem dX11_sees_14 : decode cX11_sees 14 = .ok (.bipush 99, 2) := by decide +kernel
theorem dX11_sees_16 : decode cX11_sees 16 = .ok (.if_icmp .le 5, 3) := by decide +kernel
theorem dX11_sees_19 : decode cX11_sees 19 = .ok (.iconst (-1), 1) := by decide +kernel
theorem dX11_sees_20 : decode cX11_sees 20 = .ok (.ireturn, 1) := by decide +kernel
theorem dX11_sees_21 : decode cX11_sees 21 = .ok (.aload_n 0, 1) := by decide +kernel
theorem dX11_sees_22 : decode cX11_sees 22 = .ok (.getfield 81, 3) := by decide +kernel
theorem dX11_sees_25 : decode cX11_sees 25 = .ok (.iload_n 1, 1) := by decide +kernel
theorem dX11_sees_26 : decode cX11_sees 26 = .ok (.iload_n 2, 1) := by decide +kernel
theorem dX11_sees_27 : decode cX11_sees 27 = .ok (.iload_n 3, 1) := by decide +kernel
theorem dX11_sees_28 : decode cX11_sees 28 = .ok (.invokevirtual 223, 3) := by decide +kernel
theorem dX11_sees_31 : decode cX11_sees 31 = .ok (.ifCond .eq 13, 3) := by decide +kernel
theorem dX11_sees_34 : decode cX11_sees 34 = .ok (.aload_n 0, 1) := by decide +kernel
theorem dX11_sees_35 : decode cX11_sees 35 = .ok (.getfield 81, 3) := by decide +kernel
theorem dX11_sees_38 : decode cX11_sees 38 = .ok (.getfield 114, 3) := by decide +kernel
theorem dX11_sees_41 : decode cX11_sees 41 = .ok (.goto 5, 3) := by decide +kernel
theorem dX11_sees_44 : decode cX11_sees 44 = .ok (.bipush (-3), 2) := by decide +kernel
theorem dX11_sees_46 : decode cX11_sees 46 = .ok (.ireturn, 1) := by decide +kernel
theorem dX11_forget_0 : decode cX11_forget 0 = .ok (.aload_n 0, 1) := by decide +kernel
theorem dX11_forget_1 : decode cX11_forget 1 = .ok (.getfield 81, 3) := by decide +kernel
theorem dX11_forget_4 : decode cX11_forget 4 = .ok (.getfield 114, 3) := by decide +kernel
theorem dX11_forget_7 : decode cX11_forget 7 = .ok (.istore_n 1, 1) := by decide +kernel
theorem dX11_forget_8 : decode cX11_forget 8 = .ok (.aload_n 0, 1) := by decide +kernel
theorem dX11_forget_9 : decode cX11_forget 9 = .ok (.getfield 81, 3) := by decide +kernel
theorem dX11_forget_12 : decode cX11_forget 12 = .ok (.iconst 0, 1) := by decide +kernel
theorem dX11_forget_13 : decode cX11_forget 13 = .ok (.putfield 114, 3) := by decide +kernel
theorem dX11_forget_16 : decode cX11_forget 16 = .ok (.iload_n 1, 1) := by decide +kernel
theorem dX11_forget_17 : decode cX11_forget 17 = .ok (.ireturn, 1) := by decide +kernel
theorem dX11_unseen_0 : decode cX11_unseen 0 = .ok (.iconst 0, 1) := by decide +kernel
theorem dX11_unseen_1 : decode cX11_unseen 1 = .ok (.istore_n 1, 1) := by decide +kernel
theorem dX11_unseen_2 : decode cX11_unseen 2 = .ok (.iconst 0, 1) := by decide +kernel
theorem dX11_unseen_3 : decode cX11_unseen 3 = .ok (.istore_n 2, 1) := by decide +kernel
theorem dX11_unseen_4 : decode cX11_unseen 4 = .ok (.iload_n 2, 1) := by decide +kernel
theorem dX11_unseen_5 : decode cX11_unseen 5 = .ok (.aload_n 0, 1) := by decide +kernel
theorem dX11_unseen_6 : decode cX11_unseen 6 = .ok (.getfield 35, 3) := by decide +kernel
theorem dX11_unseen_9 : decode cX11_unseen 9 = .ok (.getfield 118, 3) := by decide +kernel
theorem dX11_unseen_12 : decode cX11_unseen 12 = .ok (.getfield 148, 3) := by decide +kernel
theorem dX11_unseen_15 : decode cX11_unseen 15 = .ok (.if_icmp .ge 61, 3) := by decide +kernel
theorem dX11_unseen_18 : decode cX11_unseen 18 = .ok (.aload_n 0, 1) := by decide +kernel
theorem dX11_unseen_19 : decode cX11_unseen 19 = .ok (.getfield 74, 3) := by decide +kernel
theorem dX11_unseen_22 : decode cX11_unseen 22 = .ok (.aload_n 0, 1) := by decide +kernel
theorem dX11_unseen_23 : decode cX11_unseen 23 = .ok (.getfield 35, 3) := by decide +kernel
theorem dX11_unseen_26 : decode cX11_unseen 26 = .ok (.getfield 118, 3) := by decide +kernel
theorem dX11_unseen_29 : decode cX11_unseen 29 = .ok (.aload_n 0, 1) := by decide +kernel
theorem dX11_unseen_30 : decode cX11_unseen 30 = .ok (.getfield 28, 3) := by decide +kernel
theorem dX11_unseen_33 : decode cX11_unseen 33 = .ok (.getfield 209, 3) := by decide +kernel
theorem dX11_unseen_36 : decode cX11_unseen 36 = .ok (.aload_n 0, 1) := by decide +kernel
theorem dX11_unseen_37 : decode cX11_unseen 37 = .ok (.getfield 35, 3) := by decide +kernel
theorem dX11_unseen_40 : decode cX11_unseen 40 = .ok (.getfield 118, 3) := by decide +kernel
theorem dX11_unseen_43 : decode cX11_unseen 43 = .ok (.iload_n 2, 1) := by decide +kernel
theorem dX11_unseen_44 : decode cX11_unseen 44 = .ok (.invokevirtual 119, 3) := by decide +kernel
theorem dX11_unseen_47 : decode cX11_unseen 47 = .ok (.invokevirtual 211, 3) := by decide +kernel
theorem dX11_unseen_50 : decode cX11_unseen 50 = .ok (.aload_n 0, 1) := by decide +kernel
theorem dX11_unseen_51 : decode cX11_unseen 51 = .ok (.getfield 81, 3) := by decide +kernel
theorem dX11_unseen_54 : decode cX11_unseen 54 = .ok (.aload_n 0, 1) := by decide +kernel
theorem dX11_unseen_55 : decode cX11_unseen 55 = .ok (.getfield 74, 3) := by decide +kernel
theorem dX11_unseen_58 : decode cX11_unseen 58 = .ok (.invokevirtual 226, 3) := by decide +kernel
theorem dX11_unseen_61 : decode cX11_unseen 61 = .ok (.ifCond .eq 9, 3) := by decide +kernel
theorem dX11_unseen_64 : decode cX11_unseen 64 = .ok (.iload_n 1, 1) := by decide +kernel
theorem dX11_unseen_65 : decode cX11_unseen 65 = .ok (.iconst 1, 1) := by decide +kernel
theorem dX11_unseen_66 : decode cX11_unseen 66 = .ok (.iload_n 2, 1) := by decide +kernel
theorem dX11_unseen_67 : decode cX11_unseen 67 = .ok (.ishl, 1) := by decide +kernel
theorem dX11_unseen_68 : decode cX11_unseen 68 = .ok (.ior, 1) := by decide +kernel
theorem dX11_unseen_69 : decode cX11_unseen 69 = .ok (.istore_n 1, 1) := by decide +kernel
theorem dX11_unseen_70 : decode cX11_unseen 70 = .ok (.iinc 2 1, 3) := by decide +kernel
theorem dX11_unseen_73 : decode cX11_unseen 73 = .ok (.goto (-69), 3) := by decide +kernel
theorem dX11_unseen_76 : decode cX11_unseen 76 = .ok (.iload_n 1, 1) := by decide +kernel
theorem dX11_unseen_77 : decode cX11_unseen 77 = .ok (.ireturn, 1) := by decide +kernel
theorem dX11_keep_0 : decode cX11_keep 0 = .ok (.iload_n 1, 1) := by decide +kernel
theorem dX11_keep_1 : decode cX11_keep 1 = .ok (.invokestatic 230, 3) := by decide +kernel
theorem dX11_keep_4 : decode cX11_keep 4 = .ok (.ifCond .ne 5, 3) := by decide +kernel
theorem dX11_keep_7 : decode cX11_keep 7 = .ok (.iconst (-1), 1) := by decide +kernel
theorem dX11_keep_8 : decode cX11_keep 8 = .ok (.ireturn, 1) := by decide +kernel
theorem dX11_keep_9 : decode cX11_keep 9 = .ok (.aload_n 0, 1) := by decide +kernel
theorem dX11_keep_10 : decode cX11_keep 10 = .ok (.getfield 58, 3) := by decide +kernel
theorem dX11_keep_13 : decode cX11_keep 13 = .ok (.getfield 233, 3) := by decide +kernel
theorem dX11_keep_16 : decode cX11_keep 16 = .ok (.iload_n 1, 1) := by decide +kernel
theorem dX11_keep_17 : decode cX11_keep 17 = .ok (.aaload, 1) := by decide +kernel
theorem dX11_keep_18 : decode cX11_keep 18 = .ok (.aload_n 0, 1) := by decide +kernel
theorem dX11_keep_19 : decode cX11_keep 19 = .ok (.getfield 35, 3) := by decide +kernel
theorem dX11_keep_22 : decode cX11_keep 22 = .ok (.invokevirtual 237, 3) := by decide +kernel
theorem dX11_keep_25 : decode cX11_keep 25 = .ok (.aload_n 0, 1) := by decide +kernel
theorem dX11_keep_26 : decode cX11_keep 26 = .ok (.getfield 58, 3) := by decide +kernel
theorem dX11_keep_29 : decode cX11_keep 29 = .ok (.getfield 239, 3) := by decide +kernel
theorem dX11_keep_32 : decode cX11_keep 32 = .ok (.iload_n 1, 1) := by decide +kernel
theorem dX11_keep_33 : decode cX11_keep 33 = .ok (.iconst 1, 1) := by decide +kernel
theorem dX11_keep_34 : decode cX11_keep 34 = .ok (.bastore, 1) := by decide +kernel
theorem dX11_keep_35 : decode cX11_keep 35 = .ok (.aload_n 0, 1) := by decide +kernel
theorem dX11_keep_36 : decode cX11_keep 36 = .ok (.getfield 35, 3) := by decide +kernel
theorem dX11_keep_39 : decode cX11_keep 39 = .ok (.getfield 118, 3) := by decide +kernel
theorem dX11_keep_42 : decode cX11_keep 42 = .ok (.getfield 148, 3) := by decide +kernel
theorem dX11_keep_45 : decode cX11_keep 45 = .ok (.ireturn, 1) := by decide +kernel
theorem dX11_back_0 : decode cX11_back 0 = .ok (.iload_n 1, 1) := by decide +kernel
theorem dX11_back_1 : decode cX11_back 1 = .ok (.invokestatic 230, 3) := by decide +kernel
theorem dX11_back_4 : decode cX11_back 4 = .ok (.ifCond .ne 5, 3) := by decide +kernel
theorem dX11_back_7 : decode cX11_back 7 = .ok (.iconst (-1), 1) := by decide +kernel
theorem dX11_back_8 : decode cX11_back 8 = .ok (.ireturn, 1) := by decide +kernel
theorem dX11_back_9 : decode cX11_back 9 = .ok (.aload_n 0, 1) := by decide +kernel
theorem dX11_back_10 : decode cX11_back 10 = .ok (.getfield 58, 3) := by decide +kernel
theorem dX11_back_13 : decode cX11_back 13 = .ok (.getfield 239, 3) := by decide +kernel
theorem dX11_back_16 : decode cX11_back 16 = .ok (.iload_n 1, 1) := by decide +kernel
theorem dX11_back_17 : decode cX11_back 17 = .ok (.baload, 1) := by decide +kernel
theorem dX11_back_18 : decode cX11_back 18 = .ok (.ifCond .ne 6, 3) := by decide +kernel
theorem dX11_back_21 : decode cX11_back 21 = .ok (.bipush (-2), 2) := by decide +kernel
theorem dX11_back_23 : decode cX11_back 23 = .ok (.ireturn, 1) := by decide +kernel
theorem dX11_back_24 : decode cX11_back 24 = .ok (.aload_n 0, 1) := by decide +kernel
theorem dX11_back_25 : decode cX11_back 25 = .ok (.getfield 35, 3) := by decide +kernel
theorem dX11_back_28 : decode cX11_back 28 = .ok (.aload_n 0, 1) := by decide +kernel
theorem dX11_back_29 : decode cX11_back 29 = .ok (.getfield 58, 3) := by decide +kernel
theorem dX11_back_32 : decode cX11_back 32 = .ok (.getfield 233, 3) := by decide +kernel
theorem dX11_back_35 : decode cX11_back 35 = .ok (.iload_n 1, 1) := by decide +kernel
theorem dX11_back_36 : decode cX11_back 36 = .ok (.aaload, 1) := by decide +kernel
theorem dX11_back_37 : decode cX11_back 37 = .ok (.invokevirtual 237, 3) := by decide +kernel
theorem dX11_back_40 : decode cX11_back 40 = .ok (.aload_n 0, 1) := by decide +kernel
theorem dX11_back_41 : decode cX11_back 41 = .ok (.getfield 51, 3) := by decide +kernel
theorem dX11_back_44 : decode cX11_back 44 = .ok (.iconst 0, 1) := by decide +kernel
theorem dX11_back_45 : decode cX11_back 45 = .ok (.putfield 110, 3) := by decide +kernel
theorem dX11_back_48 : decode cX11_back 48 = .ok (.aload_n 0, 1) := by decide +kernel
theorem dX11_back_49 : decode cX11_back 49 = .ok (.getfield 35, 3) := by decide +kernel
theorem dX11_back_52 : decode cX11_back 52 = .ok (.getfield 118, 3) := by decide +kernel
theorem dX11_back_55 : decode cX11_back 55 = .ok (.getfield 148, 3) := by decide +kernel
theorem dX11_back_58 : decode cX11_back 58 = .ok (.ireturn, 1) := by decide +kernel
theorem dX11_count_0 : decode cX11_count 0 = .ok (.iload_n 1, 1) := by decide +kernel
theorem dX11_count_1 : decode cX11_count 1 = .ok (.tableswitch 150 0 10 #[59, 67, 78, 86, 94, 102, 110, 118, 126, 134, 142], 59) := by decide +kernel
theorem dX11_count_60 : decode cX11_count 60 = .ok (.aload_n 0, 1) := by decide +kernel
theorem dX11_count_61 : decode cX11_count 61 = .ok (.getfield 28, 3) := by decide +kernel
theorem dX11_count_64 : decode cX11_count 64 = .ok (.getfield 209, 3) := by decide +kernel
theorem dX11_count_67 : decode cX11_count 67 = .ok (.ireturn, 1) := by decide +kernel
theorem dX11_count_68 : decode cX11_count 68 = .ok (.aload_n 0, 1) := by decide +kernel
theorem dX11_count_69 : decode cX11_count 69 = .ok (.getfield 35, 3) := by decide +kernel
theorem dX11_count_72 : decode cX11_count 72 = .ok (.getfield 118, 3) := by decide +kernel
theorem dX11_count_75 : decode cX11_count 75 = .ok (.getfield 148, 3) := by decide +kernel
theorem dX11_count_78 : decode cX11_count 78 = .ok (.ireturn, 1) := by decide +kernel
theorem dX11_count_79 : decode cX11_count 79 = .ok (.aload_n 0, 1) := by decide +kernel
theorem dX11_count_80 : decode cX11_count 80 = .ok (.getfield 28, 3) := by decide +kernel
theorem dX11_count_83 : decode cX11_count 83 = .ok (.getfield 243, 3) := by decide +kernel
theorem dX11_count_86 : decode cX11_count 86 = .ok (.ireturn, 1) := by decide +kernel
theorem dX11_count_87 : decode cX11_count 87 = .ok (.aload_n 0, 1) := by decide +kernel
theorem dX11_count_88 : decode cX11_count 88 = .ok (.getfield 28, 3) := by decide +kernel
theorem dX11_count_91 : decode cX11_count 91 = .ok (.getfield 246, 3) := by decide +kernel
theorem dX11_count_94 : decode cX11_count 94 = .ok (.ireturn, 1) := by decide +kernel
theorem dX11_count_95 : decode cX11_count 95 = .ok (.aload_n 0, 1) := by decide +kernel
theorem dX11_count_96 : decode cX11_count 96 = .ok (.getfield 28, 3) := by decide +kernel
theorem dX11_count_99 : decode cX11_count 99 = .ok (.getfield 249, 3) := by decide +kernel
theorem dX11_count_102 : decode cX11_count 102 = .ok (.ireturn, 1) := by decide +kernel
theorem dX11_count_103 : decode cX11_count 103 = .ok (.aload_n 0, 1) := by decide +kernel
theorem dX11_count_104 : decode cX11_count 104 = .ok (.getfield 28, 3) := by decide +kernel
theorem dX11_count_107 : decode cX11_count 107 = .ok (.getfield 252, 3) := by decide +kernel
theorem dX11_count_110 : decode cX11_count 110 = .ok (.ireturn, 1) := by decide +kernel
theorem dX11_count_111 : decode cX11_count 111 = .ok (.aload_n 0, 1) := by decide +kernel
theorem dX11_count_112 : decode cX11_count 112 = .ok (.getfield 28, 3) := by decide +kernel
theorem dX11_count_115 : decode cX11_count 115 = .ok (.getfield 255, 3) := by decide +kernel
theorem dX11_count_118 : decode cX11_count 118 = .ok (.ireturn, 1) := by decide +kernel
theorem dX11_count_119 : decode cX11_count 119 = .ok (.aload_n 0, 1) := by decide +kernel
theorem dX11_count_120 : decode cX11_count 120 = .ok (.getfield 35, 3) := by decide +kernel
theorem dX11_count_123 : decode cX11_count 123 = .ok (.getfield 258, 3) := by decide +kernel
theorem dX11_count_126 : decode cX11_count 126 = .ok (.ireturn, 1) := by decide +kernel
theorem dX11_count_127 : decode cX11_count 127 = .ok (.aload_n 0, 1) := by decide +kernel
theorem dX11_count_128 : decode cX11_count 128 = .ok (.getfield 81, 3) := by decide +kernel
theorem dX11_count_131 : decode cX11_count 131 = .ok (.getfield 114, 3) := by decide +kernel
theorem dX11_count_134 : decode cX11_count 134 = .ok (.ireturn, 1) := by decide +kernel
theorem dX11_count_135 : decode cX11_count 135 = .ok (.aload_n 0, 1) := by decide +kernel
theorem dX11_count_136 : decode cX11_count 136 = .ok (.getfield 12, 3) := by decide +kernel
theorem dX11_count_139 : decode cX11_count 139 = .ok (.getfield 89, 3) := by decide +kernel
theorem dX11_count_142 : decode cX11_count 142 = .ok (.ireturn, 1) := by decide +kernel
theorem dX11_count_143 : decode cX11_count 143 = .ok (.aload_n 0, 1) := by decide +kernel
theorem dX11_count_144 : decode cX11_count 144 = .ok (.getfield 51, 3) := by decide +kernel
theorem dX11_count_147 : decode cX11_count 147 = .ok (.getfield 110, 3) := by decide +kernel
theorem dX11_count_150 : decode cX11_count 150 = .ok (.ireturn, 1) := by decide +kernel
theorem dX11_count_151 : decode cX11_count 151 = .ok (.iconst (-1), 1) := by decide +kernel
theorem dX11_count_152 : decode cX11_count 152 = .ok (.ireturn, 1) := by decide +kernel
theorem dX11_isNode_0 : decode cX11_isNode 0 = .ok (.iload_n 1, 1) := by decide +kernel
theorem dX11_isNode_1 : decode cX11_isNode 1 = .ok (.ifCond .lt 18, 3) := by decide +kernel
theorem dX11_isNode_4 : decode cX11_isNode 4 = .ok (.iload_n 1, 1) := by decide +kernel
theorem dX11_isNode_5 : decode cX11_isNode 5 = .ok (.aload_n 0, 1) := by decide +kernel
theorem dX11_isNode_6 : decode cX11_isNode 6 = .ok (.getfield 28, 3) := by decide +kernel
theorem dX11_isNode_9 : decode cX11_isNode 9 = .ok (.getfield 209, 3) := by decide +kernel
theorem dX11_isNode_12 : decode cX11_isNode 12 = .ok (.if_icmp .ge 7, 3) := by decide +kernel
theorem dX11_isNode_15 : decode cX11_isNode 15 = .ok (.iconst 1, 1) := by decide +kernel
theorem dX11_isNode_16 : decode cX11_isNode 16 = .ok (.goto 4, 3) := by decide +kernel
theorem dX11_isNode_19 : decode cX11_isNode 19 = .ok (.iconst 0, 1) := by decide +kernel
theorem dX11_isNode_20 : decode cX11_isNode 20 = .ok (.ireturn, 1) := by decide +kernel
theorem dX11_areUnlike_0 : decode cX11_areUnlike 0 = .ok (.aload_n 0, 1) := by decide +kernel
theorem dX11_areUnlike_1 : decode cX11_areUnlike 1 = .ok (.iload_n 1, 1) := by decide +kernel
theorem dX11_areUnlike_2 : decode cX11_areUnlike 2 = .ok (.invokevirtual 181, 3) := by decide +kernel
theorem dX11_areUnlike_5 : decode cX11_areUnlike 5 = .ok (.ifCond .eq 20, 3) := by decide +kernel
theorem dX11_areUnlike_8 : decode cX11_areUnlike 8 = .ok (.aload_n 0, 1) := by decide +kernel
theorem dX11_areUnlike_9 : decode cX11_areUnlike 9 = .ok (.iload_n 2, 1) := by decide +kernel
theorem dX11_areUnlike_10 : decode cX11_areUnlike 10 = .ok (.invokevirtual 181, 3) := by decide +kernel
theorem dX11_areUnlike_13 : decode cX11_areUnlike 13 = .ok (.ifCond .eq 12, 3) := by decide +kernel
theorem dX11_areUnlike_16 : decode cX11_areUnlike 16 = .ok (.iload_n 1, 1) := by decide +kernel
theorem dX11_areUnlike_17 : decode cX11_areUnlike 17 = .ok (.iload_n 2, 1) := by decide +kernel
theorem dX11_areUnlike_18 : decode cX11_areUnlike 18 = .ok (.if_icmp .eq 7, 3) := by decide +kernel
theorem dX11_areUnlike_21 : decode cX11_areUnlike 21 = .ok (.iconst 1, 1) := by decide +kernel
theorem dX11_areUnlike_22 : decode cX11_areUnlike 22 = .ok (.goto 4, 3) := by decide +kernel
theorem dX11_areUnlike_25 : decode cX11_areUnlike 25 = .ok (.iconst 0, 1) := by decide +kernel
theorem dX11_areUnlike_26 : decode cX11_areUnlike 26 = .ok (.ireturn, 1) := by decide +kernel
theorem dX11_isDelay_0 : decode cX11_isDelay 0 = .ok (.iload_n 0, 1) := by decide +kernel
theorem dX11_isDelay_1 : decode cX11_isDelay 1 = .ok (.iconst 1, 1) := by decide +kernel
theorem dX11_isDelay_2 : decode cX11_isDelay 2 = .ok (.if_icmp .lt 13, 3) := by decide +kernel
theorem dX11_isDelay_5 : decode cX11_isDelay 5 = .ok (.iload_n 0, 1) := by decide +kernel
theorem dX11_isDelay_6 : decode cX11_isDelay 6 = .ok (.bipush 9, 2) := by decide +kernel
theorem dX11_isDelay_8 : decode cX11_isDelay 8 = .ok (.if_icmp .gt 7, 3) := by decide +kernel
theorem dX11_isDelay_11 : decode cX11_isDelay 11 = .ok (.iconst 1, 1) := by decide +kernel
theorem dX11_isDelay_12 : decode cX11_isDelay 12 = .ok (.goto 4, 3) := by decide +kernel
theorem dX11_isDelay_15 : decode cX11_isDelay 15 = .ok (.iconst 0, 1) := by decide +kernel
theorem dX11_isDelay_16 : decode cX11_isDelay 16 = .ok (.ireturn, 1) := by decide +kernel
theorem dX11_isImage_0 : decode cX11_isImage 0 = .ok (.iload_n 0, 1) := by decide +kernel
theorem dX11_isImage_1 : decode cX11_isImage 1 = .ok (.ifCond .lt 12, 3) := by decide +kernel
theorem dX11_isImage_4 : decode cX11_isImage 4 = .ok (.iload_n 0, 1) := by decide +kernel
theorem dX11_isImage_5 : decode cX11_isImage 5 = .ok (.iconst 2, 1) := by decide +kernel
theorem dX11_isImage_6 : decode cX11_isImage 6 = .ok (.if_icmp .ge 7, 3) := by decide +kernel
theorem dX11_isImage_9 : decode cX11_isImage 9 = .ok (.iconst 1, 1) := by decide +kernel
theorem dX11_isImage_10 : decode cX11_isImage 10 = .ok (.goto 4, 3) := by decide +kernel
theorem dX11_isImage_13 : decode cX11_isImage 13 = .ok (.iconst 0, 1) := by decide +kernel
theorem dX11_isImage_14 : decode cX11_isImage 14 = .ok (.ireturn, 1) := by decide +kernel
theorem dX11_refusalOfGuess_0 : decode cX11_refusalOfGuess 0 = .ok (.aload_n 0, 1) := by decide +kernel
theorem dX11_refusalOfGuess_1 : decode cX11_refusalOfGuess 1 = .ok (.iload_n 1, 1) := by decide +kernel
theorem dX11_refusalOfGuess_2 : decode cX11_refusalOfGuess 2 = .ok (.iload_n 2, 1) := by decide +kernel
theorem dX11_refusalOfGuess_3 : decode cX11_refusalOfGuess 3 = .ok (.invokevirtual 129, 3) := by decide +kernel
theorem dX11_refusalOfGuess_6 : decode cX11_refusalOfGuess 6 = .ok (.ifCond .eq 11, 3) := by decide +kernel
theorem dX11_refusalOfGuess_9 : decode cX11_refusalOfGuess 9 = .ok (.aload_n 0, 1) := by decide +kernel
theorem dX11_refusalOfGuess_10 : decode cX11_refusalOfGuess 10 = .ok (.iload_n 3, 1) := by decide +kernel
theorem dX11_refusalOfGuess_11 : decode cX11_refusalOfGuess 11 = .ok (.invokevirtual 181, 3) := by decide +kernel
theorem dX11_refusalOfGuess_14 : decode cX11_refusalOfGuess 14 = .ok (.ifCond .ne 5, 3) := by decide +kernel
theorem dX11_refusalOfGuess_17 : decode cX11_refusalOfGuess 17 = .ok (.iconst (-1), 1) := by decide +kernel
theorem dX11_refusalOfGuess_18 : decode cX11_refusalOfGuess 18 = .ok (.ireturn, 1) := by decide +kernel
theorem dX11_refusalOfGuess_19 : decode cX11_refusalOfGuess 19 = .ok (.aload_n 0, 1) := by decide +kernel
theorem dX11_refusalOfGuess_20 : decode cX11_refusalOfGuess 20 = .ok (.getfield 35, 3) := by decide +kernel
theorem dX11_refusalOfGuess_23 : decode cX11_refusalOfGuess 23 = .ok (.getfield 118, 3) := by decide +kernel
theorem dX11_refusalOfGuess_26 : decode cX11_refusalOfGuess 26 = .ok (.iload_n 1, 1) := by decide +kernel
theorem dX11_refusalOfGuess_27 : decode cX11_refusalOfGuess 27 = .ok (.iload_n 3, 1) := by decide +kernel
theorem dX11_refusalOfGuess_28 : decode cX11_refusalOfGuess 28 = .ok (.invokevirtual 154, 3) := by decide +kernel
theorem dX11_refusalOfGuess_31 : decode cX11_refusalOfGuess 31 = .ok (.ifCond .le 7, 3) := by decide +kernel
theorem dX11_refusalOfGuess_34 : decode cX11_refusalOfGuess 34 = .ok (.iconst 0, 1) := by decide +kernel
theorem dX11_refusalOfGuess_35 : decode cX11_refusalOfGuess 35 = .ok (.goto 5, 3) := by decide +kernel
theorem dX11_refusalOfGuess_38 : decode cX11_refusalOfGuess 38 = .ok (.bipush (-2), 2) := by decide +kernel
theorem dX11_refusalOfGuess_40 : decode cX11_refusalOfGuess 40 = .ok (.ireturn, 1) := by decide +kernel
theorem dX11_hurtWithout_0 : decode cX11_hurtWithout 0 = .ok (.aload_n 0, 1) := by decide +kernel
theorem dX11_hurtWithout_1 : decode cX11_hurtWithout 1 = .ok (.getfield 74, 3) := by decide +kernel
theorem dX11_hurtWithout_4 : decode cX11_hurtWithout 4 = .ok (.aload_n 0, 1) := by decide +kernel
theorem dX11_hurtWithout_5 : decode cX11_hurtWithout 5 = .ok (.getfield 35, 3) := by decide +kernel
theorem dX11_hurtWithout_8 : decode cX11_hurtWithout 8 = .ok (.getfield 118, 3) := by decide +kernel
theorem dX11_hurtWithout_11 : decode cX11_hurtWithout 11 = .ok (.aload_n 0, 1) := by decide +kernel
theorem dX11_hurtWithout_12 : decode cX11_hurtWithout 12 = .ok (.getfield 28, 3) := by decide +kernel
theorem dX11_hurtWithout_15 : decode cX11_hurtWithout 15 = .ok (.getfield 209, 3) := by decide +kernel
theorem dX11_hurtWithout_18 : decode cX11_hurtWithout 18 = .ok (.iload_n 1, 1) := by decide +kernel
theorem dX11_hurtWithout_19 : decode cX11_hurtWithout 19 = .ok (.invokevirtual 211, 3) := by decide +kernel
theorem dX11_hurtWithout_22 : decode cX11_hurtWithout 22 = .ok (.aload_n 0, 1) := by decide +kernel
theorem dX11_hurtWithout_23 : decode cX11_hurtWithout 23 = .ok (.getfield 74, 3) := by decide +kernel
theorem dX11_hurtWithout_26 : decode cX11_hurtWithout 26 = .ok (.invokevirtual 261, 3) := by decide +kernel
theorem dX11_hurtWithout_29 : decode cX11_hurtWithout 29 = .ok (.ireturn, 1) := by decide +kernel
theorem dX11_pairCell_0 : decode cX11_pairCell 0 = .ok (.iload_n 0, 1) := by decide +kernel
theorem dX11_pairCell_1 : decode cX11_pairCell 1 = .ok (.bipush 6, 2) := by decide +kernel
theorem dX11_pairCell_3 : decode cX11_pairCell 3 = .ok (.imul, 1) := by decide +kernel
theorem dX11_pairCell_4 : decode cX11_pairCell 4 = .ok (.iload_n 1, 1) := by decide +kernel
theorem dX11_pairCell_5 : decode cX11_pairCell 5 = .ok (.iadd, 1) := by decide +kernel
theorem dX11_pairCell_6 : decode cX11_pairCell 6 = .ok (.ireturn, 1) := by decide +kernel
theorem dX11_guessCell_0 : decode cX11_guessCell 0 = .ok (.iload_n 0, 1) := by decide +kernel
theorem dX11_guessCell_1 : decode cX11_guessCell 1 = .ok (.bipush 6, 2) := by decide +kernel
theorem dX11_guessCell_3 : decode cX11_guessCell 3 = .ok (.imul, 1) := by decide +kernel
theorem dX11_guessCell_4 : decode cX11_guessCell 4 = .ok (.iload_n 1, 1) := by decide +kernel
theorem dX11_guessCell_5 : decode cX11_guessCell 5 = .ok (.iadd, 1) := by decide +kernel
theorem dX11_guessCell_6 : decode cX11_guessCell 6 = .ok (.bipush 6, 2) := by decide +kernel
theorem dX11_guessCell_8 : decode cX11_guessCell 8 = .ok (.imul, 1) := by decide +kernel
theorem dX11_guessCell_9 : decode cX11_guessCell 9 = .ok (.iload_n 2, 1) := by decide +kernel
theorem dX11_guessCell_10 : decode cX11_guessCell 10 = .ok (.iadd, 1) := by decide +kernel
theorem dX11_guessCell_11 : decode cX11_guessCell 11 = .ok (.ireturn, 1) := by decide +kernel
