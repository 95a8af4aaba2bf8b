theorem dX5_init_0 : decode cX5_init 0 = .ok (.aload_n 0, 1) := by decide +kernel
theorem dX5_init_1 : decode cX5_init 1 = .ok (.invokespecial 3, 3) := by decide +kernel
theorem dX5_init_4 : decode cX5_init 4 = .ok (.aload_n 0, 1) := by decide +kernel
theorem dX5_init_5 : decode cX5_init 5 = .ok (.aload_n 1, 1) := by decide +kernel
theorem dX5_init_6 : decode cX5_init 6 = .ok (.putfield 9, 3) := by decide +kernel
theorem dX5_init_9 : decode cX5_init 9 = .ok (.aload_n 0, 1) := by decide +kernel
theorem dX5_init_10 : decode cX5_init 10 = .ok (.aload_n 2, 1) := by decide +kernel
theorem dX5_init_11 : decode cX5_init 11 = .ok (.putfield 15, 3) := by decide +kernel
theorem dX5_init_14 : decode cX5_init 14 = .ok (.return_, 1) := by decide +kernel
theorem dX5_guessBy_0 : decode cX5_guessBy 0 = .ok (.aload_n 0, 1) := by decide +kernel
theorem dX5_guessBy_1 : decode cX5_guessBy 1 = .ok (.iload_n 1, 1) := by decide +kernel
theorem dX5_guessBy_2 : decode cX5_guessBy 2 = .ok (.iload_n 2, 1) := by decide +kernel
theorem dX5_guessBy_3 : decode cX5_guessBy 3 = .ok (.iload_n 3, 1) := by decide +kernel
theorem dX5_guessBy_4 : decode cX5_guessBy 4 = .ok (.invokestatic 19, 3) := by decide +kernel
theorem dX5_guessBy_7 : decode cX5_guessBy 7 = .ok (.invokevirtual 23, 3) := by decide +kernel
theorem dX5_guessBy_10 : decode cX5_guessBy 10 = .ok (.ireturn, 1) := by decide +kernel
theorem dX5_guessAt_0 : decode cX5_guessAt 0 = .ok (.aload_n 0, 1) := by decide +kernel
theorem dX5_guessAt_1 : decode cX5_guessAt 1 = .ok (.getfield 15, 3) := by decide +kernel
theorem dX5_guessAt_4 : decode cX5_guessAt 4 = .ok (.getfield 27, 3) := by decide +kernel
theorem dX5_guessAt_7 : decode cX5_guessAt 7 = .ok (.iload_n 1, 1) := by decide +kernel
theorem dX5_guessAt_8 : decode cX5_guessAt 8 = .ok (.iaload, 1) := by decide +kernel
theorem dX5_guessAt_9 : decode cX5_guessAt 9 = .ok (.istore_n 2, 1) := by decide +kernel
theorem dX5_guessAt_10 : decode cX5_guessAt 10 = .ok (.iload_n 2, 1) := by decide +kernel
theorem dX5_guessAt_11 : decode cX5_guessAt 11 = .ok (.ifCond .eq 22, 3) := by decide +kernel
theorem dX5_guessAt_14 : decode cX5_guessAt 14 = .ok (.aload_n 0, 1) := by decide +kernel
theorem dX5_guessAt_15 : decode cX5_guessAt 15 = .ok (.getfield 15, 3) := by decide +kernel
theorem dX5_guessAt_18 : decode cX5_guessAt 18 = .ok (.getfield 33, 3) := by decide +kernel
theorem dX5_guessAt_21 : decode cX5_guessAt 21 = .ok (.iload_n 2, 1) := by decide +kernel
theorem dX5_guessAt_22 : decode cX5_guessAt 22 = .ok (.isub, 1) := by decide +kernel
theorem dX5_guessAt_23 : decode cX5_guessAt 23 = .ok (.aload_n 0, 1) := by decide +kernel
theorem dX5_guessAt_24 : decode cX5_guessAt 24 = .ok (.getfield 9, 3) := by decide +kernel
theorem dX5_guessAt_27 : decode cX5_guessAt 27 = .ok (.getfield 37, 3) := by decide +kernel
theorem dX5_guessAt_30 : decode cX5_guessAt 30 = .ok (.if_icmp .le 14, 3) := by decide +kernel
theorem dX5_guessAt_33 : decode cX5_guessAt 33 = .ok (.bipush 64, 2) := by decide +kernel
theorem dX5_guessAt_35 : decode cX5_guessAt 35 = .ok (.aload_n 0, 1) := by decide +kernel
theorem dX5_guessAt_36 : decode cX5_guessAt 36 = .ok (.getfield 9, 3) := by decide +kernel
theorem dX5_guessAt_39 : decode cX5_guessAt 39 = .ok (.getfield 42, 3) := by decide +kernel
theorem dX5_guessAt_42 : decode cX5_guessAt 42 = .ok (.imul, 1) := by decide +kernel
theorem dX5_guessAt_43 : decode cX5_guessAt 43 = .ok (.ireturn, 1) := by decide +kernel
theorem dX5_guessAt_44 : decode cX5_guessAt 44 = .ok (.aload_n 0, 1) := by decide +kernel
theorem dX5_guessAt_45 : decode cX5_guessAt 45 = .ok (.getfield 15, 3) := by decide +kernel
theorem dX5_guessAt_48 : decode cX5_guessAt 48 = .ok (.getfield 45, 3) := by decide +kernel
theorem dX5_guessAt_51 : decode cX5_guessAt 51 = .ok (.iload_n 1, 1) := by decide +kernel
theorem dX5_guessAt_52 : decode cX5_guessAt 52 = .ok (.iaload, 1) := by decide +kernel
theorem dX5_guessAt_53 : decode cX5_guessAt 53 = .ok (.ireturn, 1) := by decide +kernel
theorem dX5_bestOf_0 : decode cX5_bestOf 0 = .ok (.iload_n 1, 1) := by decide +kernel
theorem dX5_bestOf_1 : decode cX5_bestOf 1 = .ok (.iconst 0, 1) := by decide +kernel
theorem dX5_bestOf_2 : decode cX5_bestOf 2 = .ok (.invokestatic 48, 3) := by decide +kernel
theorem dX5_bestOf_5 : decode cX5_bestOf 5 = .ok (.istore_n 3, 1) := by decide +kernel
theorem dX5_bestOf_6 : decode cX5_bestOf 6 = .ok (.iload_n 1, 1) := by decide +kernel
theorem dX5_bestOf_7 : decode cX5_bestOf 7 = .ok (.iload_n 2, 1) := by decide +kernel
theorem dX5_bestOf_8 : decode cX5_bestOf 8 = .ok (.iconst 0, 1) := by decide +kernel
theorem dX5_bestOf_9 : decode cX5_bestOf 9 = .ok (.invokestatic 19, 3) := by decide +kernel
theorem dX5_bestOf_12 : decode cX5_bestOf 12 = .ok (.istore 4, 2) := by decide +kernel
theorem dX5_bestOf_14 : decode cX5_bestOf 14 = .ok (.bipush (-9), 2) := by decide +kernel
theorem dX5_bestOf_16 : decode cX5_bestOf 16 = .ok (.istore 5, 2) := by decide +kernel
theorem dX5_bestOf_18 : decode cX5_bestOf 18 = .ok (.iconst 0, 1) := by decide +kernel
theorem dX5_bestOf_19 : decode cX5_bestOf 19 = .ok (.istore 6, 2) := by decide +kernel
theorem dX5_bestOf_21 : decode cX5_bestOf 21 = .ok (.iconst 0, 1) := by decide +kernel
theorem dX5_bestOf_22 : decode cX5_bestOf 22 = .ok (.istore 7, 2) := by decide +kernel
theorem dX5_bestOf_24 : decode cX5_bestOf 24 = .ok (.iload 7, 2) := by decide +kernel
theorem dX5_bestOf_26 : decode cX5_bestOf 26 = .ok (.aload_n 0, 1) := by decide +kernel
theorem dX5_bestOf_27 : decode cX5_bestOf 27 = .ok (.getfield 9, 3) := by decide +kernel
theorem dX5_bestOf_30 : decode cX5_bestOf 30 = .ok (.getfield 52, 3) := by decide +kernel
theorem dX5_bestOf_33 : decode cX5_bestOf 33 = .ok (.if_icmp .ge 60, 3) := by decide +kernel
theorem dX5_bestOf_36 : decode cX5_bestOf 36 = .ok (.aload_n 0, 1) := by decide +kernel
theorem dX5_bestOf_37 : decode cX5_bestOf 37 = .ok (.getfield 15, 3) := by decide +kernel
theorem dX5_bestOf_40 : decode cX5_bestOf 40 = .ok (.getfield 55, 3) := by decide +kernel
theorem dX5_bestOf_43 : decode cX5_bestOf 43 = .ok (.getfield 59, 3) := by decide +kernel
theorem dX5_bestOf_46 : decode cX5_bestOf 46 = .ok (.iload_n 3, 1) := by decide +kernel
theorem dX5_bestOf_47 : decode cX5_bestOf 47 = .ok (.iload 7, 2) := by decide +kernel
theorem dX5_bestOf_49 : decode cX5_bestOf 49 = .ok (.iadd, 1) := by decide +kernel
theorem dX5_bestOf_50 : decode cX5_bestOf 50 = .ok (.iaload, 1) := by decide +kernel
theorem dX5_bestOf_51 : decode cX5_bestOf 51 = .ok (.ifCond .le 36, 3) := by decide +kernel
theorem dX5_bestOf_54 : decode cX5_bestOf 54 = .ok (.aload_n 0, 1) := by decide +kernel
theorem dX5_bestOf_55 : decode cX5_bestOf 55 = .ok (.iload 4, 2) := by decide +kernel
theorem dX5_bestOf_57 : decode cX5_bestOf 57 = .ok (.iload 7, 2) := by decide +kernel
theorem dX5_bestOf_59 : decode cX5_bestOf 59 = .ok (.iadd, 1) := by decide +kernel
theorem dX5_bestOf_60 : decode cX5_bestOf 60 = .ok (.invokevirtual 23, 3) := by decide +kernel
theorem dX5_bestOf_63 : decode cX5_bestOf 63 = .ok (.istore 8, 2) := by decide +kernel
theorem dX5_bestOf_65 : decode cX5_bestOf 65 = .ok (.iload 5, 2) := by decide +kernel
theorem dX5_bestOf_67 : decode cX5_bestOf 67 = .ok (.bipush (-9), 2) := by decide +kernel
theorem dX5_bestOf_69 : decode cX5_bestOf 69 = .ok (.if_icmp .eq 10, 3) := by decide +kernel
theorem dX5_bestOf_72 : decode cX5_bestOf 72 = .ok (.iload 8, 2) := by decide +kernel
theorem dX5_bestOf_74 : decode cX5_bestOf 74 = .ok (.iload 6, 2) := by decide +kernel
theorem dX5_bestOf_76 : decode cX5_bestOf 76 = .ok (.if_icmp .ge 11, 3) := by decide +kernel
theorem dX5_bestOf_79 : decode cX5_bestOf 79 = .ok (.iload 7, 2) := by decide +kernel
theorem dX5_bestOf_81 : decode cX5_bestOf 81 = .ok (.istore 5, 2) := by decide +kernel
theorem dX5_bestOf_83 : decode cX5_bestOf 83 = .ok (.iload 8, 2) := by decide +kernel
theorem dX5_bestOf_85 : decode cX5_bestOf 85 = .ok (.istore 6, 2) := by decide +kernel
theorem dX5_bestOf_87 : decode cX5_bestOf 87 = .ok (.iinc 7 1, 3) := by decide +kernel
theorem dX5_bestOf_90 : decode cX5_bestOf 90 = .ok (.goto (-66), 3) := by decide +kernel
theorem dX5_bestOf_93 : decode cX5_bestOf 93 = .ok (.iload 5, 2) := by decide +kernel
theorem dX5_bestOf_95 : decode cX5_bestOf 95 = .ok (.ireturn, 1) := by decide +kernel
theorem dX5_stalestOf_0 : decode cX5_stalestOf 0 = .ok (.iload_n 1, 1) := by decide +kernel
theorem dX5_stalestOf_1 : decode cX5_stalestOf 1 = .ok (.iconst 0, 1) := by decide +kernel
theorem dX5_stalestOf_2 : decode cX5_stalestOf 2 = .ok (.invokestatic 48, 3) := by decide +kernel
theorem dX5_stalestOf_5 : decode cX5_stalestOf 5 = .ok (.istore_n 3, 1) := by decide +kernel
theorem dX5_stalestOf_6 : decode cX5_stalestOf 6 = .ok (.iload_n 1, 1) := by decide +kernel
theorem dX5_stalestOf_7 : decode cX5_stalestOf 7 = .ok (.iload_n 2, 1) := by decide +kernel
theorem dX5_stalestOf_8 : decode cX5_stalestOf 8 = .ok (.iconst 0, 1) := by decide +kernel
theorem dX5_stalestOf_9 : decode cX5_stalestOf 9 = .ok (.invokestatic 19, 3) := by decide +kernel
theorem dX5_stalestOf_12 : decode cX5_stalestOf 12 = .ok (.istore 4, 2) := by decide +kernel
theorem dX5_stalestOf_14 : decode cX5_stalestOf 14 = .ok (.bipush (-9), 2) := by decide +kernel
theorem dX5_stalestOf_16 : decode cX5_stalestOf 16 = .ok (.istore 5, 2) := by decide +kernel
theorem dX5_stalestOf_18 : decode cX5_stalestOf 18 = .ok (.iconst 0, 1) := by decide +kernel
theorem dX5_stalestOf_19 : decode cX5_stalestOf 19 = .ok (.istore 6, 2) := by decide +kernel
theorem dX5_stalestOf_21 : decode cX5_stalestOf 21 = .ok (.iconst 0, 1) := by decide +kernel
theorem dX5_stalestOf_22 : decode cX5_stalestOf 22 = .ok (.istore 7, 2) := by decide +kernel
theorem dX5_stalestOf_24 : decode cX5_stalestOf 24 = .ok (.iload 7, 2) := by decide +kernel
theorem dX5_stalestOf_26 : decode cX5_stalestOf 26 = .ok (.aload_n 0, 1) := by decide +kernel
theorem dX5_stalestOf_27 : decode cX5_stalestOf 27 = .ok (.getfield 9, 3) := by decide +kernel
theorem dX5_stalestOf_30 : decode cX5_stalestOf 30 = .ok (.getfield 52, 3) := by decide +kernel
theorem dX5_stalestOf_33 : decode cX5_stalestOf 33 = .ok (.if_icmp .ge 64, 3) := by decide +kernel
theorem dX5_stalestOf_36 : decode cX5_stalestOf 36 = .ok (.aload_n 0, 1) := by decide +kernel
theorem dX5_stalestOf_37 : decode cX5_stalestOf 37 = .ok (.getfield 15, 3) := by decide +kernel
theorem dX5_stalestOf_40 : decode cX5_stalestOf 40 = .ok (.getfield 55, 3) := by decide +kernel
theorem dX5_stalestOf_43 : decode cX5_stalestOf 43 = .ok (.getfield 59, 3) := by decide +kernel
theorem dX5_stalestOf_46 : decode cX5_stalestOf 46 = .ok (.iload_n 3, 1) := by decide +kernel
theorem dX5_stalestOf_47 : decode cX5_stalestOf 47 = .ok (.iload 7, 2) := by decide +kernel
theorem dX5_stalestOf_49 : decode cX5_stalestOf 49 = .ok (.iadd, 1) := by decide +kernel
theorem dX5_stalestOf_50 : decode cX5_stalestOf 50 = .ok (.iaload, 1) := by decide +kernel
theorem dX5_stalestOf_51 : decode cX5_stalestOf 51 = .ok (.ifCond .le 40, 3) := by decide +kernel
theorem dX5_stalestOf_54 : decode cX5_stalestOf 54 = .ok (.aload_n 0, 1) := by decide +kernel
theorem dX5_stalestOf_55 : decode cX5_stalestOf 55 = .ok (.getfield 15, 3) := by decide +kernel
theorem dX5_stalestOf_58 : decode cX5_stalestOf 58 = .ok (.getfield 27, 3) := by decide +kernel
theorem dX5_stalestOf_61 : decode cX5_stalestOf 61 = .ok (.iload 4, 2) := by decide +kernel
theorem dX5_stalestOf_63 : decode cX5_stalestOf 63 = .ok (.iload 7, 2) := by decide +kernel
theorem dX5_stalestOf_65 : decode cX5_stalestOf 65 = .ok (.iadd, 1) := by decide +kernel
theorem dX5_stalestOf_66 : decode cX5_stalestOf 66 = .ok (.iaload, 1) := by decide +kernel
theorem dX5_stalestOf_67 : decode cX5_stalestOf 67 = .ok (.istore 8, 2) := by decide +kernel
theorem dX5_stalestOf_69 : decode cX5_stalestOf 69 = .ok (.iload 5, 2) := by decide +kernel
theorem dX5_stalestOf_71 : decode cX5_stalestOf 71 = .ok (.bipush (-9), 2) := by decide +kernel
theorem dX5_stalestOf_73 : decode cX5_stalestOf 73 = .ok (.if_icmp .eq 10, 3) := by decide +kernel
theorem dX5_stalestOf_76 : decode cX5_stalestOf 76 = .ok (.iload 8, 2) := by decide +kernel
theorem dX5_stalestOf_78 : decode cX5_stalestOf 78 = .ok (.iload 6, 2) := by decide +kernel
theorem dX5_stalestOf_80 : decode cX5_stalestOf 80 = .ok (.if_icmp .ge 11, 3) := by decide +kernel
theorem dX5_stalestOf_83 : decode cX5_stalestOf 83 = .ok (.iload 7, 2) := by decide +kernel
theorem dX5_stalestOf_85 : decode cX5_stalestOf 85 = .ok (.istore 5, 2) := by decide +kernel
theorem dX5_stalestOf_87 : decode cX5_stalestOf 87 = .ok (.iload 8, 2) := by decide +kernel
theorem dX5_stalestOf_89 : decode cX5_stalestOf 89 = .ok (.istore 6, 2) := by decide +kernel
theorem dX5_stalestOf_91 : decode cX5_stalestOf 91 = .ok (.iinc 7 1, 3) := by decide +kernel
theorem dX5_stalestOf_94 : decode cX5_stalestOf 94 = .ok (.goto (-70), 3) := by decide +kernel
theorem dX5_stalestOf_97 : decode cX5_stalestOf 97 = .ok (.iload 5, 2) := by decide +kernel
theorem dX5_stalestOf_99 : decode cX5_stalestOf 99 = .ok (.ireturn, 1) := by decide +kernel
theorem dX5_chooseHop_0 : decode cX5_chooseHop 0 = .ok (.aload_n 0, 1) := by decide +kernel
theorem dX5_chooseHop_1 : decode cX5_chooseHop 1 = .ok (.getfield 15, 3) := by decide +kernel
theorem dX5_chooseHop_4 : decode cX5_chooseHop 4 = .ok (.getfield 55, 3) := by decide +kernel
theorem dX5_chooseHop_7 : decode cX5_chooseHop 7 = .ok (.iload_n 1, 1) := by decide +kernel
theorem dX5_chooseHop_8 : decode cX5_chooseHop 8 = .ok (.invokevirtual 64, 3) := by decide +kernel
theorem dX5_chooseHop_11 : decode cX5_chooseHop 11 = .ok (.ifCond .ne 6, 3) := by decide +kernel
theorem dX5_chooseHop_14 : decode cX5_chooseHop 14 = .ok (.bipush (-9), 2) := by decide +kernel
theorem dX5_chooseHop_16 : decode cX5_chooseHop 16 = .ok (.ireturn, 1) := by decide +kernel
theorem dX5_chooseHop_17 : decode cX5_chooseHop 17 = .ok (.aload_n 0, 1) := by decide +kernel
theorem dX5_chooseHop_18 : decode cX5_chooseHop 18 = .ok (.getfield 15, 3) := by decide +kernel
theorem dX5_chooseHop_21 : decode cX5_chooseHop 21 = .ok (.getfield 67, 3) := by decide +kernel
theorem dX5_chooseHop_24 : decode cX5_chooseHop 24 = .ok (.iload_n 1, 1) := by decide +kernel
theorem dX5_chooseHop_25 : decode cX5_chooseHop 25 = .ok (.dup2, 1) := by decide +kernel
theorem dX5_chooseHop_26 : decode cX5_chooseHop 26 = .ok (.iaload, 1) := by decide +kernel
theorem dX5_chooseHop_27 : decode cX5_chooseHop 27 = .ok (.iconst 1, 1) := by decide +kernel
theorem dX5_chooseHop_28 : decode cX5_chooseHop 28 = .ok (.iadd, 1) := by decide +kernel
theorem dX5_chooseHop_29 : decode cX5_chooseHop 29 = .ok (.iastore, 1) := by decide +kernel
theorem dX5_chooseHop_30 : decode cX5_chooseHop 30 = .ok (.aload_n 0, 1) := by decide +kernel
theorem dX5_chooseHop_31 : decode cX5_chooseHop 31 = .ok (.getfield 9, 3) := by decide +kernel
theorem dX5_chooseHop_34 : decode cX5_chooseHop 34 = .ok (.getfield 70, 3) := by decide +kernel
theorem dX5_chooseHop_37 : decode cX5_chooseHop 37 = .ok (.ifCond .le 43, 3) := by decide +kernel
theorem dX5_chooseHop_40 : decode cX5_chooseHop 40 = .ok (.aload_n 0, 1) := by decide +kernel
theorem dX5_chooseHop_41 : decode cX5_chooseHop 41 = .ok (.getfield 15, 3) := by decide +kernel
theorem dX5_chooseHop_44 : decode cX5_chooseHop 44 = .ok (.getfield 67, 3) := by decide +kernel
theorem dX5_chooseHop_47 : decode cX5_chooseHop 47 = .ok (.iload_n 1, 1) := by decide +kernel
theorem dX5_chooseHop_48 : decode cX5_chooseHop 48 = .ok (.iaload, 1) := by decide +kernel
theorem dX5_chooseHop_49 : decode cX5_chooseHop 49 = .ok (.aload_n 0, 1) := by decide +kernel
theorem dX5_chooseHop_50 : decode cX5_chooseHop 50 = .ok (.getfield 9, 3) := by decide +kernel
theorem dX5_chooseHop_53 : decode cX5_chooseHop 53 = .ok (.getfield 70, 3) := by decide +kernel
theorem dX5_chooseHop_56 : decode cX5_chooseHop 56 = .ok (.irem, 1) := by decide +kernel
theorem dX5_chooseHop_57 : decode cX5_chooseHop 57 = .ok (.ifCond .ne 23, 3) := by decide +kernel
theorem dX5_chooseHop_60 : decode cX5_chooseHop 60 = .ok (.aload_n 0, 1) := by decide +kernel
theorem dX5_chooseHop_61 : decode cX5_chooseHop 61 = .ok (.getfield 15, 3) := by decide +kernel
theorem dX5_chooseHop_64 : decode cX5_chooseHop 64 = .ok (.getfield 73, 3) := by decide +kernel
theorem dX5_chooseHop_67 : decode cX5_chooseHop 67 = .ok (.iload_n 1, 1) := by decide +kernel
theorem dX5_chooseHop_68 : decode cX5_chooseHop 68 = .ok (.dup2, 1) := by decide +kernel
theorem dX5_chooseHop_69 : decode cX5_chooseHop 69 = .ok (.iaload, 1) := by decide +kernel
theorem dX5_chooseHop_70 : decode cX5_chooseHop 70 = .ok (.iconst 1, 1) := by decide +kernel
theorem dX5_chooseHop_71 : decode cX5_chooseHop 71 = .ok (.iadd, 1) := by decide +kernel
theorem dX5_chooseHop_72 : decode cX5_chooseHop 72 = .ok (.iastore, 1) := by decide +kernel
theorem dX5_chooseHop_73 : decode cX5_chooseHop 73 = .ok (.aload_n 0, 1) := by decide +kernel
theorem dX5_chooseHop_74 : decode cX5_chooseHop 74 = .ok (.iload_n 1, 1) := by decide +kernel
theorem dX5_chooseHop_75 : decode cX5_chooseHop 75 = .ok (.iload_n 2, 1) := by decide +kernel
theorem dX5_chooseHop_76 : decode cX5_chooseHop 76 = .ok (.invokevirtual 76, 3) := by decide +kernel
theorem dX5_chooseHop_79 : decode cX5_chooseHop 79 = .ok (.ireturn, 1) := by decide +kernel
theorem dX5_chooseHop_80 : decode cX5_chooseHop 80 = .ok (.aload_n 0, 1) := by decide +kernel
theorem dX5_chooseHop_81 : decode cX5_chooseHop 81 = .ok (.iload_n 1, 1) := by decide +kernel
theorem dX5_chooseHop_82 : decode cX5_chooseHop 82 = .ok (.iload_n 2, 1) := by decide +kernel
theorem dX5_chooseHop_83 : decode cX5_chooseHop 83 = .ok (.invokevirtual 79, 3) := by decide +kernel
theorem dX5_chooseHop_86 : decode cX5_chooseHop 86 = .ok (.ireturn, 1) := by decide +kernel
theorem dX5_toldBy_0 : decode cX5_toldBy 0 = .ok (.iload_n 1, 1) := by decide +kernel
theorem dX5_toldBy_1 : decode cX5_toldBy 1 = .ok (.iload_n 2, 1) := by decide +kernel
theorem dX5_toldBy_2 : decode cX5_toldBy 2 = .ok (.if_icmp .ne 5, 3) := by decide +kernel
theorem dX5_toldBy_5 : decode cX5_toldBy 5 = .ok (.iconst 0, 1) := by decide +kernel
theorem dX5_toldBy_6 : decode cX5_toldBy 6 = .ok (.ireturn, 1) := by decide +kernel
theorem dX5_toldBy_7 : decode cX5_toldBy 7 = .ok (.aload_n 0, 1) := by decide +kernel
theorem dX5_toldBy_8 : decode cX5_toldBy 8 = .ok (.iload_n 1, 1) := by decide +kernel
theorem dX5_toldBy_9 : decode cX5_toldBy 9 = .ok (.iload_n 2, 1) := by decide +kernel
theorem dX5_toldBy_10 : decode cX5_toldBy 10 = .ok (.invokevirtual 79, 3) := by decide +kernel
theorem dX5_toldBy_13 : decode cX5_toldBy 13 = .ok (.istore_n 3, 1) := by decide +kernel
theorem dX5_toldBy_14 : decode cX5_toldBy 14 = .ok (.iload_n 3, 1) := by decide +kernel
theorem dX5_toldBy_15 : decode cX5_toldBy 15 = .ok (.bipush (-9), 2) := by decide +kernel
theorem dX5_toldBy_17 : decode cX5_toldBy 17 = .ok (.if_icmp .ne 7, 3) := by decide +kernel
theorem dX5_toldBy_20 : decode cX5_toldBy 20 = .ok (.iconst 0, 1) := by decide +kernel
theorem dX5_toldBy_21 : decode cX5_toldBy 21 = .ok (.goto 10, 3) := by decide +kernel
theorem dX5_toldBy_24 : decode cX5_toldBy 24 = .ok (.aload_n 0, 1) := by decide +kernel
theorem dX5_toldBy_25 : decode cX5_toldBy 25 = .ok (.iload_n 1, 1) := by decide +kernel
theorem dX5_toldBy_26 : decode cX5_toldBy 26 = .ok (.iload_n 2, 1) := by decide +kernel
theorem dX5_toldBy_27 : decode cX5_toldBy 27 = .ok (.iload_n 3, 1) := by decide +kernel
theorem dX5_toldBy_28 : decode cX5_toldBy 28 = .ok (.invokevirtual 82, 3) := by decide +kernel
theorem dX5_toldBy_31 : decode cX5_toldBy 31 = .ok (.ireturn, 1) := by decide +kernel
theorem dX5_mend_0 : decode cX5_mend 0 = .ok (.bipush 64, 2) := by decide +kernel
theorem dX5_mend_2 : decode cX5_mend 2 = .ok (.aload_n 0, 1) := by decide +kernel
theorem dX5_mend_3 : decode cX5_mend 3 = .ok (.getfield 15, 3) := by decide +kernel
theorem dX5_mend_6 : decode cX5_mend 6 = .ok (.getfield 55, 3) := by decide +kernel
theorem dX5_mend_9 : decode cX5_mend 9 = .ok (.iload_n 1, 1) := by decide +kernel
theorem dX5_mend_10 : decode cX5_mend 10 = .ok (.iload_n 3, 1) := by decide +kernel
theorem dX5_mend_11 : decode cX5_mend 11 = .ok (.invokevirtual 85, 3) := by decide +kernel
theorem dX5_mend_14 : decode cX5_mend 14 = .ok (.imul, 1) := by decide +kernel
theorem dX5_mend_15 : decode cX5_mend 15 = .ok (.aload_n 0, 1) := by decide +kernel
theorem dX5_mend_16 : decode cX5_mend 16 = .ok (.iload_n 3, 1) := by decide +kernel
theorem dX5_mend_17 : decode cX5_mend 17 = .ok (.iload_n 2, 1) := by decide +kernel
theorem dX5_mend_18 : decode cX5_mend 18 = .ok (.invokevirtual 88, 3) := by decide +kernel
theorem dX5_mend_21 : decode cX5_mend 21 = .ok (.iadd, 1) := by decide +kernel
theorem dX5_mend_22 : decode cX5_mend 22 = .ok (.istore 4, 2) := by decide +kernel
theorem dX5_mend_24 : decode cX5_mend 24 = .ok (.iload_n 1, 1) := by decide +kernel
theorem dX5_mend_25 : decode cX5_mend 25 = .ok (.iload_n 2, 1) := by decide +kernel
theorem dX5_mend_26 : decode cX5_mend 26 = .ok (.iload_n 3, 1) := by decide +kernel
theorem dX5_mend_27 : decode cX5_mend 27 = .ok (.invokestatic 19, 3) := by decide +kernel
theorem dX5_mend_30 : decode cX5_mend 30 = .ok (.istore 5, 2) := by decide +kernel
theorem dX5_mend_32 : decode cX5_mend 32 = .ok (.aload_n 0, 1) := by decide +kernel
theorem dX5_mend_33 : decode cX5_mend 33 = .ok (.iload 5, 2) := by decide +kernel
theorem dX5_mend_35 : decode cX5_mend 35 = .ok (.invokevirtual 23, 3) := by decide +kernel
theorem dX5_mend_38 : decode cX5_mend 38 = .ok (.istore 6, 2) := by decide +kernel
theorem dX5_mend_40 : decode cX5_mend 40 = .ok (.aload_n 0, 1) := by decide +kernel
theorem dX5_mend_41 : decode cX5_mend 41 = .ok (.getfield 15, 3) := by decide +kernel
theorem dX5_mend_44 : decode cX5_mend 44 = .ok (.getfield 45, 3) := by decide +kernel
theorem dX5_mend_47 : decode cX5_mend 47 = .ok (.iload 5, 2) := by decide +kernel
theorem dX5_mend_49 : decode cX5_mend 49 = .ok (.iload 6, 2) := by decide +kernel
theorem dX5_mend_51 : decode cX5_mend 51 = .ok (.iload 4, 2) := by decide +kernel
theorem dX5_mend_53 : decode cX5_mend 53 = .ok (.iload 6, 2) := by decide +kernel
theorem dX5_mend_55 : decode cX5_mend 55 = .ok (.isub, 1) := by decide +kernel
theorem dX5_mend_56 : decode cX5_mend 56 = .ok (.aload_n 0, 1) := by decide +kernel
theorem dX5_mend_57 : decode cX5_mend 57 = .ok (.getfield 9, 3) := by decide +kernel
theorem dX5_mend_60 : decode cX5_mend 60 = .ok (.getfield 91, 3) := by decide +kernel
theorem dX5_mend_63 : decode cX5_mend 63 = .ok (.ishr, 1) := by decide +kernel
theorem dX5_mend_64 : decode cX5_mend 64 = .ok (.iadd, 1) := by decide +kernel
theorem dX5_mend_65 : decode cX5_mend 65 = .ok (.ldc 94, 2) := by decide +kernel
theorem dX5_mend_67 : decode cX5_mend 67 = .ok (.invokestatic 95, 3) := by decide +kernel
theorem dX5_mend_70 : decode cX5_mend 70 = .ok (.iastore, 1) := by decide +kernel
theorem dX5_mend_71 : decode cX5_mend 71 = .ok (.aload_n 0, 1) := by decide +kernel
theorem dX5_mend_72 : decode cX5_mend 72 = .ok (.getfield 15, 3) := by decide +kernel
theorem dX5_mend_75 : decode cX5_mend 75 = .ok (.getfield 27, 3) := by decide +kernel
theorem dX5_mend_78 : decode cX5_mend 78 = .ok (.iload 5, 2) := by decide +kernel
theorem dX5_mend_80 : decode cX5_mend 80 = .ok (.aload_n 0, 1) := by decide +kernel
theorem dX5_mend_81 : decode cX5_mend 81 = .ok (.getfield 15, 3) := by decide +kernel
theorem dX5_mend_84 : decode cX5_mend 84 = .ok (.getfield 33, 3) := by decide +kernel
theorem dX5_mend_87 : decode cX5_mend 87 = .ok (.iastore, 1) := by decide +kernel
theorem dX5_mend_88 : decode cX5_mend 88 = .ok (.return_, 1) := by decide +kernel
theorem dX5_deliver_0 : decode cX5_deliver 0 = .ok (.aload_n 0, 1) := by decide +kernel
theorem dX5_deliver_1 : decode cX5_deliver 1 = .ok (.getfield 15, 3) := by decide +kernel
theorem dX5_deliver_4 : decode cX5_deliver 4 = .ok (.iconst 0, 1) := by decide +kernel
theorem dX5_deliver_5 : decode cX5_deliver 5 = .ok (.putfield 100, 3) := by decide +kernel
theorem dX5_deliver_8 : decode cX5_deliver 8 = .ok (.aload_n 0, 1) := by decide +kernel
theorem dX5_deliver_9 : decode cX5_deliver 9 = .ok (.getfield 15, 3) := by decide +kernel
theorem dX5_deliver_12 : decode cX5_deliver 12 = .ok (.iload_n 1, 1) := by decide +kernel
theorem dX5_deliver_13 : decode cX5_deliver 13 = .ok (.invokevirtual 103, 3) := by decide +kernel
theorem dX5_deliver_16 : decode cX5_deliver 16 = .ok (.iload_n 1, 1) := by decide +kernel
theorem dX5_deliver_17 : decode cX5_deliver 17 = .ok (.istore_n 3, 1) := by decide +kernel
theorem dX5_deliver_18 : decode cX5_deliver 18 = .ok (.iconst 0, 1) := by decide +kernel
theorem dX5_deliver_19 : decode cX5_deliver 19 = .ok (.istore 4, 2) := by decide +kernel
theorem dX5_deliver_21 : decode cX5_deliver 21 = .ok (.iconst 0, 1) := by decide +kernel
theorem dX5_deliver_22 : decode cX5_deliver 22 = .ok (.istore 5, 2) := by decide +kernel
theorem dX5_deliver_24 : decode cX5_deliver 24 = .ok (.iload 5, 2) := by decide +kernel
theorem dX5_deliver_26 : decode cX5_deliver 26 = .ok (.bipush 100, 2) := by decide +kernel
theorem dX5_deliver_28 : decode cX5_deliver 28 = .ok (.if_icmp .ge 103, 3) := by decide +kernel
theorem dX5_deliver_31 : decode cX5_deliver 31 = .ok (.aload_n 0, 1) := by decide +kernel
theorem dX5_deliver_32 : decode cX5_deliver 32 = .ok (.iload_n 3, 1) := by decide +kernel
theorem dX5_deliver_33 : decode cX5_deliver 33 = .ok (.iload_n 2, 1) := by decide +kernel
theorem dX5_deliver_34 : decode cX5_deliver 34 = .ok (.invokevirtual 107, 3) := by decide +kernel
theorem dX5_deliver_37 : decode cX5_deliver 37 = .ok (.istore 6, 2) := by decide +kernel
theorem dX5_deliver_39 : decode cX5_deliver 39 = .ok (.iload 6, 2) := by decide +kernel
theorem dX5_deliver_41 : decode cX5_deliver 41 = .ok (.bipush (-9), 2) := by decide +kernel
theorem dX5_deliver_43 : decode cX5_deliver 43 = .ok (.if_icmp .ne 6, 3) := by decide +kernel
theorem dX5_deliver_46 : decode cX5_deliver 46 = .ok (.bipush (-9), 2) := by decide +kernel
theorem dX5_deliver_48 : decode cX5_deliver 48 = .ok (.ireturn, 1) := by decide +kernel
theorem dX5_deliver_49 : decode cX5_deliver 49 = .ok (.aload_n 0, 1) := by decide +kernel
theorem dX5_deliver_50 : decode cX5_deliver 50 = .ok (.getfield 15, 3) := by decide +kernel
theorem dX5_deliver_53 : decode cX5_deliver 53 = .ok (.dup, 1) := by decide +kernel
theorem dX5_deliver_54 : decode cX5_deliver 54 = .ok (.getfield 33, 3) := by decide +kernel
theorem dX5_deliver_57 : decode cX5_deliver 57 = .ok (.iconst 1, 1) := by decide +kernel
theorem dX5_deliver_58 : decode cX5_deliver 58 = .ok (.iadd, 1) := by decide +kernel
theorem dX5_deliver_59 : decode cX5_deliver 59 = .ok (.putfield 33, 3) := by decide +kernel
theorem dX5_deliver_62 : decode cX5_deliver 62 = .ok (.iload 4, 2) := by decide +kernel
theorem dX5_deliver_64 : decode cX5_deliver 64 = .ok (.aload_n 0, 1) := by decide +kernel
theorem dX5_deliver_65 : decode cX5_deliver 65 = .ok (.getfield 15, 3) := by decide +kernel
theorem dX5_deliver_68 : decode cX5_deliver 68 = .ok (.getfield 55, 3) := by decide +kernel
theorem dX5_deliver_71 : decode cX5_deliver 71 = .ok (.iload_n 3, 1) := by decide +kernel
theorem dX5_deliver_72 : decode cX5_deliver 72 = .ok (.iload 6, 2) := by decide +kernel
theorem dX5_deliver_74 : decode cX5_deliver 74 = .ok (.invokevirtual 85, 3) := by decide +kernel
theorem dX5_deliver_77 : decode cX5_deliver 77 = .ok (.iadd, 1) := by decide +kernel
theorem dX5_deliver_78 : decode cX5_deliver 78 = .ok (.istore 4, 2) := by decide +kernel
theorem dX5_deliver_80 : decode cX5_deliver 80 = .ok (.aload_n 0, 1) := by decide +kernel
theorem dX5_deliver_81 : decode cX5_deliver 81 = .ok (.iload_n 3, 1) := by decide +kernel
theorem dX5_deliver_82 : decode cX5_deliver 82 = .ok (.iload_n 2, 1) := by decide +kernel
theorem dX5_deliver_83 : decode cX5_deliver 83 = .ok (.iload 6, 2) := by decide +kernel
theorem dX5_deliver_85 : decode cX5_deliver 85 = .ok (.invokevirtual 110, 3) := by decide +kernel
theorem dX5_deliver_88 : decode cX5_deliver 88 = .ok (.aload_n 0, 1) := by decide +kernel
theorem dX5_deliver_89 : decode cX5_deliver 89 = .ok (.getfield 15, 3) := by decide +kernel
theorem dX5_deliver_92 : decode cX5_deliver 92 = .ok (.iload_n 3, 1) := by decide +kernel
theorem dX5_deliver_93 : decode cX5_deliver 93 = .ok (.iload 6, 2) := by decide +kernel
theorem dX5_deliver_95 : decode cX5_deliver 95 = .ok (.invokevirtual 114, 3) := by decide +kernel
theorem dX5_deliver_98 : decode cX5_deliver 98 = .ok (.iload 6, 2) := by decide +kernel
theorem dX5_deliver_100 : decode cX5_deliver 100 = .ok (.iload_n 2, 1) := by decide +kernel
theorem dX5_deliver_101 : decode cX5_deliver 101 = .ok (.if_icmp .ne 6, 3) := by decide +kernel
theorem dX5_deliver_104 : decode cX5_deliver 104 = .ok (.iload 4, 2) := by decide +kernel
theorem dX5_deliver_106 : decode cX5_deliver 106 = .ok (.ireturn, 1) := by decide +kernel
theorem dX5_deliver_107 : decode cX5_deliver 107 = .ok (.iload 4, 2) := by decide +kernel
theorem dX5_deliver_109 : decode cX5_deliver 109 = .ok (.aload_n 0, 1) := by decide +kernel
theorem dX5_deliver_110 : decode cX5_deliver 110 = .ok (.getfield 9, 3) := by decide +kernel
theorem dX5_deliver_113 : decode cX5_deliver 113 = .ok (.getfield 118, 3) := by decide +kernel
theorem dX5_deliver_116 : decode cX5_deliver 116 = .ok (.if_icmp .le 6, 3) := by decide +kernel
theorem dX5_deliver_119 : decode cX5_deliver 119 = .ok (.bipush (-9), 2) := by decide +kernel
theorem dX5_deliver_121 : decode cX5_deliver 121 = .ok (.ireturn, 1) := by decide +kernel
theorem dX5_deliver_122 : decode cX5_deliver 122 = .ok (.iload 6, 2) := by decide +kernel
theorem dX5_deliver_124 : decode cX5_deliver 124 = .ok (.istore_n 3, 1) := by decide +kernel
theorem dX5_deliver_125 : decode cX5_deliver 125 = .ok (.iinc 5 1, 3) := by decide +kernel
theorem dX5_deliver_128 : decode cX5_deliver 128 = .ok (.goto (-104), 3) := by decide +kernel
theorem dX5_deliver_131 : decode cX5_deliver 131 = .ok (.bipush (-9), 2) := by decide +kernel
theorem dX5_deliver_133 : decode cX5_deliver 133 = .ok (.ireturn, 1) := by decide +kernel
theorem dX5_deliverRound_0 : decode cX5_deliverRound 0 = .ok (.iconst 0, 1) := by decide +kernel
theorem dX5_deliverRound_1 : decode cX5_deliverRound 1 = .ok (.istore_n 1, 1) := by decide +kernel
theorem dX5_deliverRound_2 : decode cX5_deliverRound 2 = .ok (.iconst 0, 1) := by decide +kernel
theorem dX5_deliverRound_3 : decode cX5_deliverRound 3 = .ok (.istore_n 2, 1) := by decide +kernel
theorem dX5_deliverRound_4 : decode cX5_deliverRound 4 = .ok (.iload_n 2, 1) := by decide +kernel
theorem dX5_deliverRound_5 : decode cX5_deliverRound 5 = .ok (.aload_n 0, 1) := by decide +kernel
theorem dX5_deliverRound_6 : decode cX5_deliverRound 6 = .ok (.getfield 9, 3) := by decide +kernel
theorem dX5_deliverRound_9 : decode cX5_deliverRound 9 = .ok (.getfield 52, 3) := by decide +kernel
theorem dX5_deliverRound_12 : decode cX5_deliverRound 12 = .ok (.if_icmp .ge 47, 3) := by decide +kernel
theorem dX5_deliverRound_15 : decode cX5_deliverRound 15 = .ok (.iconst 0, 1) := by decide +kernel
theorem dX5_deliverRound_16 : decode cX5_deliverRound 16 = .ok (.istore_n 3, 1) := by decide +kernel
theorem dX5_deliverRound_17 : decode cX5_deliverRound 17 = .ok (.iload_n 3, 1) := by decide +kernel
theorem dX5_deliverRound_18 : decode cX5_deliverRound 18 = .ok (.aload_n 0, 1) := by decide +kernel
theorem dX5_deliverRound_19 : decode cX5_deliverRound 19 = .ok (.getfield 9, 3) := by decide +kernel
theorem dX5_deliverRound_22 : decode cX5_deliverRound 22 = .ok (.getfield 52, 3) := by decide +kernel
theorem dX5_deliverRound_25 : decode cX5_deliverRound 25 = .ok (.if_icmp .ge 28, 3) := by decide +kernel
theorem dX5_deliverRound_28 : decode cX5_deliverRound 28 = .ok (.iload_n 2, 1) := by decide +kernel
theorem dX5_deliverRound_29 : decode cX5_deliverRound 29 = .ok (.iload_n 3, 1) := by decide +kernel
theorem dX5_deliverRound_30 : decode cX5_deliverRound 30 = .ok (.if_icmp .eq 17, 3) := by decide +kernel
theorem dX5_deliverRound_33 : decode cX5_deliverRound 33 = .ok (.aload_n 0, 1) := by decide +kernel
theorem dX5_deliverRound_34 : decode cX5_deliverRound 34 = .ok (.iload_n 2, 1) := by decide +kernel
theorem dX5_deliverRound_35 : decode cX5_deliverRound 35 = .ok (.iload_n 3, 1) := by decide +kernel
theorem dX5_deliverRound_36 : decode cX5_deliverRound 36 = .ok (.invokevirtual 121, 3) := by decide +kernel
theorem dX5_deliverRound_39 : decode cX5_deliverRound 39 = .ok (.bipush (-9), 2) := by decide +kernel
theorem dX5_deliverRound_41 : decode cX5_deliverRound 41 = .ok (.if_icmp .eq 6, 3) := by decide +kernel
theorem dX5_deliverRound_44 : decode cX5_deliverRound 44 = .ok (.iinc 1 1, 3) := by decide +kernel
theorem dX5_deliverRound_47 : decode cX5_deliverRound 47 = .ok (.iinc 3 1, 3) := by decide +kernel
theorem dX5_deliverRound_50 : decode cX5_deliverRound 50 = .ok (.goto (-33), 3) := by decide +kernel
theorem dX5_deliverRound_53 : decode cX5_deliverRound 53 = .ok (.iinc 2 1, 3) := by decide +kernel
theorem dX5_deliverRound_56 : decode cX5_deliverRound 56 = .ok (.goto (-52), 3) := by decide +kernel
theorem dX5_deliverRound_59 : decode cX5_deliverRound 59 = .ok (.iload_n 1, 1) := by decide +kernel
theorem dX5_deliverRound_60 : decode cX5_deliverRound 60 = .ok (.ireturn, 1) := by decide +kernel
theorem dX6_init_0 : decode cX6_init 0 = .ok (.aload_n 0, 1) := by decide +kernel
theorem dX6_init_1 : decode cX6_init 1 = .ok (.invokespecial 3, 3) := by decide +kernel
theorem dX6_init_4 : decode cX6_init 4 = .ok (.aload_n 0, 1) := by decide +kernel
theorem dX6_init_5 : decode cX6_init 5 = .ok (.new 9, 3) := by decide +kernel
theorem dX6_init_8 : decode cX6_init 8 = .ok (.dup, 1) := by decide +kernel
theorem dX6_init_9 : decode cX6_init 9 = .ok (.invokespecial 11, 3) := by decide +kernel
theorem dX6_init_12 : decode cX6_init 12 = .ok (.putfield 12, 3) := by decide +kernel
theorem dX6_init_15 : decode cX6_init 15 = .ok (.aload_n 0, 1) := by decide +kernel
theorem dX6_init_16 : decode cX6_init 16 = .ok (.new 18, 3) := by decide +kernel
theorem dX6_init_19 : decode cX6_init 19 = .ok (.dup, 1) := by decide +kernel
theorem dX6_init_20 : decode cX6_init 20 = .ok (.invokespecial 20, 3) := by decide +kernel
theorem dX6_init_23 : decode cX6_init 23 = .ok (.putfield 21, 3) := by decide +kernel
theorem dX6_init_26 : decode cX6_init 26 = .ok (.aload_n 0, 1) := by decide +kernel
theorem dX6_init_27 : decode cX6_init 27 = .ok (.aload_n 1, 1) := by decide +kernel
theorem dX6_init_28 : decode cX6_init 28 = .ok (.putfield 25, 3) := by decide +kernel
theorem dX6_init_31 : decode cX6_init 31 = .ok (.return_, 1) := by decide +kernel
theorem dX6_readText_0 : decode cX6_readText 0 = .ok (.aload_n 0, 1) := by decide +kernel
theorem dX6_readText_1 : decode cX6_readText 1 = .ok (.getfield 12, 3) := by decide +kernel
theorem dX6_readText_4 : decode cX6_readText 4 = .ok (.invokevirtual 29, 3) := by decide +kernel
theorem dX6_readText_7 : decode cX6_readText 7 = .ok (.aload_n 0, 1) := by decide +kernel
theorem dX6_readText_8 : decode cX6_readText 8 = .ok (.getfield 21, 3) := by decide +kernel
theorem dX6_readText_11 : decode cX6_readText 11 = .ok (.invokevirtual 32, 3) := by decide +kernel
theorem dX6_readText_14 : decode cX6_readText 14 = .ok (.aload_n 0, 1) := by decide +kernel
theorem dX6_readText_15 : decode cX6_readText 15 = .ok (.iconst 0, 1) := by decide +kernel
theorem dX6_readText_16 : decode cX6_readText 16 = .ok (.putfield 33, 3) := by decide +kernel
theorem dX6_readText_19 : decode cX6_readText 19 = .ok (.aload_n 0, 1) := by decide +kernel
theorem dX6_readText_20 : decode cX6_readText 20 = .ok (.iconst 0, 1) := by decide +kernel
theorem dX6_readText_21 : decode cX6_readText 21 = .ok (.putfield 37, 3) := by decide +kernel
theorem dX6_readText_24 : decode cX6_readText 24 = .ok (.iconst 0, 1) := by decide +kernel
theorem dX6_readText_25 : decode cX6_readText 25 = .ok (.istore_n 1, 1) := by decide +kernel
theorem dX6_readText_26 : decode cX6_readText 26 = .ok (.iload_n 1, 1) := by decide +kernel
theorem dX6_readText_27 : decode cX6_readText 27 = .ok (.bipush 120, 2) := by decide +kernel
theorem dX6_readText_29 : decode cX6_readText 29 = .ok (.if_icmp .gt 53, 3) := by decide +kernel
theorem dX6_readText_32 : decode cX6_readText 32 = .ok (.aload_n 0, 1) := by decide +kernel
theorem dX6_readText_33 : decode cX6_readText 33 = .ok (.invokevirtual 40, 3) := by decide +kernel
theorem dX6_readText_36 : decode cX6_readText 36 = .ok (.aload_n 0, 1) := by decide +kernel
theorem dX6_readText_37 : decode cX6_readText 37 = .ok (.getfield 43, 3) := by decide +kernel
theorem dX6_readText_40 : decode cX6_readText 40 = .ok (.bipush (-3), 2) := by decide +kernel
theorem dX6_readText_42 : decode cX6_readText 42 = .ok (.if_icmp .ne 5, 3) := by decide +kernel
theorem dX6_readText_45 : decode cX6_readText 45 = .ok (.iconst (-1), 1) := by decide +kernel
theorem dX6_readText_46 : decode cX6_readText 46 = .ok (.ireturn, 1) := by decide +kernel
theorem dX6_readText_47 : decode cX6_readText 47 = .ok (.aload_n 0, 1) := by decide +kernel
theorem dX6_readText_48 : decode cX6_readText 48 = .ok (.invokevirtual 46, 3) := by decide +kernel
theorem dX6_readText_51 : decode cX6_readText 51 = .ok (.ifCond .eq 10, 3) := by decide +kernel
theorem dX6_readText_54 : decode cX6_readText 54 = .ok (.aload_n 0, 1) := by decide +kernel
theorem dX6_readText_55 : decode cX6_readText 55 = .ok (.invokevirtual 50, 3) := by decide +kernel
theorem dX6_readText_58 : decode cX6_readText 58 = .ok (.ifCond .ne 8, 3) := by decide +kernel
theorem dX6_readText_61 : decode cX6_readText 61 = .ok (.aload_n 0, 1) := by decide +kernel
theorem dX6_readText_62 : decode cX6_readText 62 = .ok (.getfield 53, 3) := by decide +kernel
theorem dX6_readText_65 : decode cX6_readText 65 = .ok (.ireturn, 1) := by decide +kernel
theorem dX6_readText_66 : decode cX6_readText 66 = .ok (.aload_n 0, 1) := by decide +kernel
theorem dX6_readText_67 : decode cX6_readText 67 = .ok (.dup, 1) := by decide +kernel
theorem dX6_readText_68 : decode cX6_readText 68 = .ok (.getfield 33, 3) := by decide +kernel
theorem dX6_readText_71 : decode cX6_readText 71 = .ok (.iconst 1, 1) := by decide +kernel
theorem dX6_readText_72 : decode cX6_readText 72 = .ok (.iadd, 1) := by decide +kernel
theorem dX6_readText_73 : decode cX6_readText 73 = .ok (.putfield 33, 3) := by decide +kernel
theorem dX6_readText_76 : decode cX6_readText 76 = .ok (.iinc 1 1, 3) := by decide +kernel
theorem dX6_readText_79 : decode cX6_readText 79 = .ok (.goto (-53), 3) := by decide +kernel
theorem dX6_readText_82 : decode cX6_readText 82 = .ok (.aload_n 0, 1) := by decide +kernel
theorem dX6_readText_83 : decode cX6_readText 83 = .ok (.getfield 53, 3) := by decide +kernel
theorem dX6_readText_86 : decode cX6_readText 86 = .ok (.ireturn, 1) := by decide +kernel
theorem dX6_readEnd_0 : decode cX6_readEnd 0 = .ok (.aload_n 0, 1) := by decide +kernel
theorem dX6_readEnd_1 : decode cX6_readEnd 1 = .ok (.invokevirtual 40, 3) := by decide +kernel
theorem dX6_readEnd_4 : decode cX6_readEnd 4 = .ok (.aload_n 0, 1) := by decide +kernel
theorem dX6_readEnd_5 : decode cX6_readEnd 5 = .ok (.getfield 43, 3) := by decide +kernel
theorem dX6_readEnd_8 : decode cX6_readEnd 8 = .ok (.bipush 59, 2) := by decide +kernel
theorem dX6_readEnd_10 : decode cX6_readEnd 10 = .ok (.if_icmp .ne 7, 3) := by decide +kernel
theorem dX6_readEnd_13 : decode cX6_readEnd 13 = .ok (.iconst 1, 1) := by decide +kernel
theorem dX6_readEnd_14 : decode cX6_readEnd 14 = .ok (.goto 4, 3) := by decide +kernel
theorem dX6_readEnd_17 : decode cX6_readEnd 17 = .ok (.iconst 0, 1) := by decide +kernel
theorem dX6_readEnd_18 : decode cX6_readEnd 18 = .ok (.ireturn, 1) := by decide +kernel
theorem dX6_readItem_0 : decode cX6_readItem 0 = .ok (.aload_n 0, 1) := by decide +kernel
theorem dX6_readItem_1 : decode cX6_readItem 1 = .ok (.getfield 43, 3) := by decide +kernel
theorem dX6_readItem_4 : decode cX6_readItem 4 = .ok (.tableswitch 166 97 120 #[157, 166, 166, 166, 132, 157, 166, 157, 166, 166, 166, 157, 166, 112, 166, 166, 166, 166, 166, 166, 166, 166, 166, 157], 112) := by decide +kernel
theorem dX6_readItem_116 : decode cX6_readItem 116 = .ok (.aload_n 0, 1) := by decide +kernel
theorem dX6_readItem_117 : decode cX6_readItem 117 = .ok (.getfield 33, 3) := by decide +kernel
theorem dX6_readItem_120 : decode cX6_readItem 120 = .ok (.ifCond .ne 14, 3) := by decide +kernel
theorem dX6_readItem_123 : decode cX6_readItem 123 = .ok (.aload_n 0, 1) := by decide +kernel
theorem dX6_readItem_124 : decode cX6_readItem 124 = .ok (.invokevirtual 56, 3) := by decide +kernel
theorem dX6_readItem_127 : decode cX6_readItem 127 = .ok (.ifCond .eq 7, 3) := by decide +kernel
theorem dX6_readItem_130 : decode cX6_readItem 130 = .ok (.iconst 1, 1) := by decide +kernel
theorem dX6_readItem_131 : decode cX6_readItem 131 = .ok (.goto 4, 3) := by decide +kernel
theorem dX6_readItem_134 : decode cX6_readItem 134 = .ok (.iconst 0, 1) := by decide +kernel
theorem dX6_readItem_135 : decode cX6_readItem 135 = .ok (.ireturn, 1) := by decide +kernel
theorem dX6_readItem_136 : decode cX6_readItem 136 = .ok (.aload_n 0, 1) := by decide +kernel
theorem dX6_readItem_137 : decode cX6_readItem 137 = .ok (.getfield 21, 3) := by decide +kernel
theorem dX6_readItem_140 : decode cX6_readItem 140 = .ok (.getfield 59, 3) := by decide +kernel
theorem dX6_readItem_143 : decode cX6_readItem 143 = .ok (.bipush 10, 2) := by decide +kernel
theorem dX6_readItem_145 : decode cX6_readItem 145 = .ok (.if_icmp .ge 14, 3) := by decide +kernel
theorem dX6_readItem_148 : decode cX6_readItem 148 = .ok (.aload_n 0, 1) := by decide +kernel
theorem dX6_readItem_149 : decode cX6_readItem 149 = .ok (.invokevirtual 62, 3) := by decide +kernel
theorem dX6_readItem_152 : decode cX6_readItem 152 = .ok (.ifCond .eq 7, 3) := by decide +kernel
theorem dX6_readItem_155 : decode cX6_readItem 155 = .ok (.iconst 1, 1) := by decide +kernel
theorem dX6_readItem_156 : decode cX6_readItem 156 = .ok (.goto 4, 3) := by decide +kernel
theorem dX6_readItem_159 : decode cX6_readItem 159 = .ok (.iconst 0, 1) := by decide +kernel
theorem dX6_readItem_160 : decode cX6_readItem 160 = .ok (.ireturn, 1) := by decide +kernel
theorem dX6_readItem_161 : decode cX6_readItem 161 = .ok (.aload_n 0, 1) := by decide +kernel
theorem dX6_readItem_162 : decode cX6_readItem 162 = .ok (.aload_n 0, 1) := by decide +kernel
theorem dX6_readItem_163 : decode cX6_readItem 163 = .ok (.getfield 43, 3) := by decide +kernel
theorem dX6_readItem_166 : decode cX6_readItem 166 = .ok (.invokevirtual 65, 3) := by decide +kernel
theorem dX6_readItem_169 : decode cX6_readItem 169 = .ok (.ireturn, 1) := by decide +kernel
theorem dX6_readItem_170 : decode cX6_readItem 170 = .ok (.iconst 0, 1) := by decide +kernel
theorem dX6_readItem_171 : decode cX6_readItem 171 = .ok (.ireturn, 1) := by decide +kernel
theorem dX6_readNodes_0 : decode cX6_readNodes 0 = .ok (.aload_n 0, 1) := by decide +kernel
theorem dX6_readNodes_1 : decode cX6_readNodes 1 = .ok (.iconst 2, 1) := by decide +kernel
theorem dX6_readNodes_2 : decode cX6_readNodes 2 = .ok (.bipush 6, 2) := by decide +kernel
theorem dX6_readNodes_4 : decode cX6_readNodes 4 = .ok (.invokevirtual 69, 3) := by decide +kernel
theorem dX6_readNodes_7 : decode cX6_readNodes 7 = .ok (.ifCond .ne 5, 3) := by decide +kernel
theorem dX6_readNodes_10 : decode cX6_readNodes 10 = .ok (.iconst 0, 1) := by decide +kernel
theorem dX6_readNodes_11 : decode cX6_readNodes 11 = .ok (.ireturn, 1) := by decide +kernel
theorem dX6_readNodes_12 : decode cX6_readNodes 12 = .ok (.aload_n 0, 1) := by decide +kernel
theorem dX6_readNodes_13 : decode cX6_readNodes 13 = .ok (.getfield 12, 3) := by decide +kernel
theorem dX6_readNodes_16 : decode cX6_readNodes 16 = .ok (.aload_n 0, 1) := by decide +kernel
theorem dX6_readNodes_17 : decode cX6_readNodes 17 = .ok (.getfield 73, 3) := by decide +kernel
theorem dX6_readNodes_20 : decode cX6_readNodes 20 = .ok (.putfield 76, 3) := by decide +kernel
theorem dX6_readNodes_23 : decode cX6_readNodes 23 = .ok (.iconst 1, 1) := by decide +kernel
theorem dX6_readNodes_24 : decode cX6_readNodes 24 = .ok (.ireturn, 1) := by decide +kernel
theorem dX6_readLink_0 : decode cX6_readLink 0 = .ok (.aload_n 0, 1) := by decide +kernel
theorem dX6_readLink_1 : decode cX6_readLink 1 = .ok (.iconst 0, 1) := by decide +kernel
theorem dX6_readLink_2 : decode cX6_readLink 2 = .ok (.aload_n 0, 1) := by decide +kernel
theorem dX6_readLink_3 : decode cX6_readLink 3 = .ok (.getfield 12, 3) := by decide +kernel
theorem dX6_readLink_6 : decode cX6_readLink 6 = .ok (.getfield 76, 3) := by decide +kernel
theorem dX6_readLink_9 : decode cX6_readLink 9 = .ok (.iconst 1, 1) := by decide +kernel
theorem dX6_readLink_10 : decode cX6_readLink 10 = .ok (.isub, 1) := by decide +kernel
theorem dX6_readLink_11 : decode cX6_readLink 11 = .ok (.invokevirtual 69, 3) := by decide +kernel
theorem dX6_readLink_14 : decode cX6_readLink 14 = .ok (.ifCond .ne 5, 3) := by decide +kernel
theorem dX6_readLink_17 : decode cX6_readLink 17 = .ok (.iconst 0, 1) := by decide +kernel
theorem dX6_readLink_18 : decode cX6_readLink 18 = .ok (.ireturn, 1) := by decide +kernel
theorem dX6_readLink_19 : decode cX6_readLink 19 = .ok (.aload_n 0, 1) := by decide +kernel
theorem dX6_readLink_20 : decode cX6_readLink 20 = .ok (.getfield 73, 3) := by decide +kernel
theorem dX6_readLink_23 : decode cX6_readLink 23 = .ok (.istore_n 1, 1) := by decide +kernel
theorem dX6_readLink_24 : decode cX6_readLink 24 = .ok (.aload_n 0, 1) := by decide +kernel
theorem dX6_readLink_25 : decode cX6_readLink 25 = .ok (.iconst 0, 1) := by decide +kernel
theorem dX6_readLink_26 : decode cX6_readLink 26 = .ok (.aload_n 0, 1) := by decide +kernel
theorem dX6_readLink_27 : decode cX6_readLink 27 = .ok (.getfield 12, 3) := by decide +kernel
theorem dX6_readLink_30 : decode cX6_readLink 30 = .ok (.getfield 76, 3) := by decide +kernel
theorem dX6_readLink_33 : decode cX6_readLink 33 = .ok (.iconst 1, 1) := by decide +kernel
theorem dX6_readLink_34 : decode cX6_readLink 34 = .ok (.isub, 1) := by decide +kernel
theorem dX6_readLink_35 : decode cX6_readLink 35 = .ok (.invokevirtual 69, 3) := by decide +kernel
theorem dX6_readLink_38 : decode cX6_readLink 38 = .ok (.ifCond .ne 5, 3) := by decide +kernel
theorem dX6_readLink_41 : decode cX6_readLink 41 = .ok (.iconst 0, 1) := by decide +kernel
theorem dX6_readLink_42 : decode cX6_readLink 42 = .ok (.ireturn, 1) := by decide +kernel
theorem dX6_readLink_43 : decode cX6_readLink 43 = .ok (.aload_n 0, 1) := by decide +kernel
theorem dX6_readLink_44 : decode cX6_readLink 44 = .ok (.getfield 73, 3) := by decide +kernel
theorem dX6_readLink_47 : decode cX6_readLink 47 = .ok (.istore_n 2, 1) := by decide +kernel
theorem dX6_readLink_48 : decode cX6_readLink 48 = .ok (.iload_n 2, 1) := by decide +kernel
theorem dX6_readLink_49 : decode cX6_readLink 49 = .ok (.iload_n 1, 1) := by decide +kernel
theorem dX6_readLink_50 : decode cX6_readLink 50 = .ok (.if_icmp .eq 25, 3) := by decide +kernel
theorem dX6_readLink_53 : decode cX6_readLink 53 = .ok (.aload_n 0, 1) := by decide +kernel
theorem dX6_readLink_54 : decode cX6_readLink 54 = .ok (.getfield 21, 3) := by decide +kernel
theorem dX6_readLink_57 : decode cX6_readLink 57 = .ok (.iload_n 1, 1) := by decide +kernel
theorem dX6_readLink_58 : decode cX6_readLink 58 = .ok (.iload_n 2, 1) := by decide +kernel
theorem dX6_readLink_59 : decode cX6_readLink 59 = .ok (.invokevirtual 79, 3) := by decide +kernel
theorem dX6_readLink_62 : decode cX6_readLink 62 = .ok (.ifCond .gt 13, 3) := by decide +kernel
theorem dX6_readLink_65 : decode cX6_readLink 65 = .ok (.aload_n 0, 1) := by decide +kernel
theorem dX6_readLink_66 : decode cX6_readLink 66 = .ok (.iconst 1, 1) := by decide +kernel
theorem dX6_readLink_67 : decode cX6_readLink 67 = .ok (.bipush 9, 2) := by decide +kernel
theorem dX6_readLink_69 : decode cX6_readLink 69 = .ok (.invokevirtual 69, 3) := by decide +kernel
theorem dX6_readLink_72 : decode cX6_readLink 72 = .ok (.ifCond .ne 5, 3) := by decide +kernel
theorem dX6_readLink_75 : decode cX6_readLink 75 = .ok (.iconst 0, 1) := by decide +kernel
theorem dX6_readLink_76 : decode cX6_readLink 76 = .ok (.ireturn, 1) := by decide +kernel
theorem dX6_readLink_77 : decode cX6_readLink 77 = .ok (.aload_n 0, 1) := by decide +kernel
theorem dX6_readLink_78 : decode cX6_readLink 78 = .ok (.getfield 21, 3) := by decide +kernel
theorem dX6_readLink_81 : decode cX6_readLink 81 = .ok (.iload_n 1, 1) := by decide +kernel
theorem dX6_readLink_82 : decode cX6_readLink 82 = .ok (.iload_n 2, 1) := by decide +kernel
theorem dX6_readLink_83 : decode cX6_readLink 83 = .ok (.aload_n 0, 1) := by decide +kernel
theorem dX6_readLink_84 : decode cX6_readLink 84 = .ok (.getfield 73, 3) := by decide +kernel
theorem dX6_readLink_87 : decode cX6_readLink 87 = .ok (.invokevirtual 83, 3) := by decide +kernel
theorem dX6_readLink_90 : decode cX6_readLink 90 = .ok (.iconst 1, 1) := by decide +kernel
theorem dX6_readLink_91 : decode cX6_readLink 91 = .ok (.ireturn, 1) := by decide +kernel
theorem dX6_readRule_0 : decode cX6_readRule 0 = .ok (.aload_n 0, 1) := by decide +kernel
theorem dX6_readRule_1 : decode cX6_readRule 1 = .ok (.iload_n 1, 1) := by decide +kernel
theorem dX6_readRule_2 : decode cX6_readRule 2 = .ok (.invokestatic 87, 3) := by decide +kernel
theorem dX6_readRule_5 : decode cX6_readRule 5 = .ok (.iload_n 1, 1) := by decide +kernel
theorem dX6_readRule_6 : decode cX6_readRule 6 = .ok (.invokestatic 91, 3) := by decide +kernel
theorem dX6_readRule_9 : decode cX6_readRule 9 = .ok (.invokevirtual 69, 3) := by decide +kernel
theorem dX6_readRule_12 : decode cX6_readRule 12 = .ok (.ifCond .ne 5, 3) := by decide +kernel
theorem dX6_readRule_15 : decode cX6_readRule 15 = .ok (.iconst 0, 1) := by decide +kernel
theorem dX6_readRule_16 : decode cX6_readRule 16 = .ok (.ireturn, 1) := by decide +kernel
theorem dX6_readRule_17 : decode cX6_readRule 17 = .ok (.iload_n 1, 1) := by decide +kernel
theorem dX6_readRule_18 : decode cX6_readRule 18 = .ok (.bipush 120, 2) := by decide +kernel
theorem dX6_readRule_20 : decode cX6_readRule 20 = .ok (.if_icmp .ne 17, 3) := by decide +kernel
theorem dX6_readRule_23 : decode cX6_readRule 23 = .ok (.aload_n 0, 1) := by decide +kernel
theorem dX6_readRule_24 : decode cX6_readRule 24 = .ok (.getfield 12, 3) := by decide +kernel
theorem dX6_readRule_27 : decode cX6_readRule 27 = .ok (.aload_n 0, 1) := by decide +kernel
theorem dX6_readRule_28 : decode cX6_readRule 28 = .ok (.getfield 73, 3) := by decide +kernel
theorem dX6_readRule_31 : decode cX6_readRule 31 = .ok (.putfield 94, 3) := by decide +kernel
theorem dX6_readRule_34 : decode cX6_readRule 34 = .ok (.goto 74, 3) := by decide +kernel
theorem dX6_readRule_37 : decode cX6_readRule 37 = .ok (.iload_n 1, 1) := by decide +kernel
theorem dX6_readRule_38 : decode cX6_readRule 38 = .ok (.bipush 104, 2) := by decide +kernel
theorem dX6_readRule_40 : decode cX6_readRule 40 = .ok (.if_icmp .ne 17, 3) := by decide +kernel
theorem dX6_readRule_43 : decode cX6_readRule 43 = .ok (.aload_n 0, 1) := by decide +kernel
theorem dX6_readRule_44 : decode cX6_readRule 44 = .ok (.getfield 12, 3) := by decide +kernel
theorem dX6_readRule_47 : decode cX6_readRule 47 = .ok (.aload_n 0, 1) := by decide +kernel
theorem dX6_readRule_48 : decode cX6_readRule 48 = .ok (.getfield 73, 3) := by decide +kernel
theorem dX6_readRule_51 : decode cX6_readRule 51 = .ok (.putfield 97, 3) := by decide +kernel
theorem dX6_readRule_54 : decode cX6_readRule 54 = .ok (.goto 54, 3) := by decide +kernel
theorem dX6_readRule_57 : decode cX6_readRule 57 = .ok (.iload_n 1, 1) := by decide +kernel
theorem dX6_readRule_58 : decode cX6_readRule 58 = .ok (.bipush 97, 2) := by decide +kernel
theorem dX6_readRule_60 : decode cX6_readRule 60 = .ok (.if_icmp .ne 17, 3) := by decide +kernel
theorem dX6_readRule_63 : decode cX6_readRule 63 = .ok (.aload_n 0, 1) := by decide +kernel
theorem dX6_readRule_64 : decode cX6_readRule 64 = .ok (.getfield 12, 3) := by decide +kernel
theorem dX6_readRule_67 : decode cX6_readRule 67 = .ok (.aload_n 0, 1) := by decide +kernel
theorem dX6_readRule_68 : decode cX6_readRule 68 = .ok (.getfield 73, 3) := by decide +kernel
theorem dX6_readRule_71 : decode cX6_readRule 71 = .ok (.putfield 100, 3) := by decide +kernel
theorem dX6_readRule_74 : decode cX6_readRule 74 = .ok (.goto 34, 3) := by decide +kernel
theorem dX6_readRule_77 : decode cX6_readRule 77 = .ok (.iload_n 1, 1) := by decide +kernel
theorem dX6_readRule_78 : decode cX6_readRule 78 = .ok (.bipush 108, 2) := by decide +kernel
theorem dX6_readRule_80 : decode cX6_readRule 80 = .ok (.if_icmp .ne 17, 3) := by decide +kernel
theorem dX6_readRule_83 : decode cX6_readRule 83 = .ok (.aload_n 0, 1) := by decide +kernel
theorem dX6_readRule_84 : decode cX6_readRule 84 = .ok (.getfield 12, 3) := by decide +kernel
theorem dX6_readRule_87 : decode cX6_readRule 87 = .ok (.aload_n 0, 1) := by decide +kernel
theorem dX6_readRule_88 : decode cX6_readRule 88 = .ok (.getfield 73, 3) := by decide +kernel
theorem dX6_readRule_91 : decode cX6_readRule 91 = .ok (.putfield 103, 3) := by decide +kernel
theorem dX6_readRule_94 : decode cX6_readRule 94 = .ok (.goto 14, 3) := by decide +kernel
theorem dX6_readRule_97 : decode cX6_readRule 97 = .ok (.aload_n 0, 1) := by decide +kernel
theorem dX6_readRule_98 : decode cX6_readRule 98 = .ok (.getfield 12, 3) := by decide +kernel
theorem dX6_readRule_101 : decode cX6_readRule 101 = .ok (.aload_n 0, 1) := by decide +kernel
theorem dX6_readRule_102 : decode cX6_readRule 102 = .ok (.getfield 73, 3) := by decide +kernel
theorem dX6_readRule_105 : decode cX6_readRule 105 = .ok (.putfield 106, 3) := by decide +kernel
theorem dX6_readRule_108 : decode cX6_readRule 108 = .ok (.iconst 1, 1) := by decide +kernel
theorem dX6_readRule_109 : decode cX6_readRule 109 = .ok (.ireturn, 1) := by decide +kernel
theorem dX6_lowestOf_0 : decode cX6_lowestOf 0 = .ok (.iload_n 0, 1) := by decide +kernel
theorem dX6_lowestOf_1 : decode cX6_lowestOf 1 = .ok (.bipush 97, 2) := by decide +kernel
theorem dX6_lowestOf_3 : decode cX6_lowestOf 3 = .ok (.if_icmp .eq 9, 3) := by decide +kernel
theorem dX6_lowestOf_6 : decode cX6_lowestOf 6 = .ok (.iload_n 0, 1) := by decide +kernel
theorem dX6_lowestOf_7 : decode cX6_lowestOf 7 = .ok (.bipush 108, 2) := by decide +kernel
theorem dX6_lowestOf_9 : decode cX6_lowestOf 9 = .ok (.if_icmp .ne 7, 3) := by decide +kernel
theorem dX6_lowestOf_12 : decode cX6_lowestOf 12 = .ok (.iconst 1, 1) := by decide +kernel
theorem dX6_lowestOf_13 : decode cX6_lowestOf 13 = .ok (.goto 4, 3) := by decide +kernel
theorem dX6_lowestOf_16 : decode cX6_lowestOf 16 = .ok (.iconst 0, 1) := by decide +kernel
theorem dX6_lowestOf_17 : decode cX6_lowestOf 17 = .ok (.ireturn, 1) := by decide +kernel
theorem dX6_highestOf_0 : decode cX6_highestOf 0 = .ok (.iload_n 0, 1) := by decide +kernel
theorem dX6_highestOf_1 : decode cX6_highestOf 1 = .ok (.bipush 120, 2) := by decide +kernel
theorem dX6_highestOf_3 : decode cX6_highestOf 3 = .ok (.if_icmp .ne 6, 3) := by decide +kernel
theorem dX6_highestOf_6 : decode cX6_highestOf 6 = .ok (.bipush 9, 2) := by decide +kernel
theorem dX6_highestOf_8 : decode cX6_highestOf 8 = .ok (.ireturn, 1) := by decide +kernel
theorem dX6_highestOf_9 : decode cX6_highestOf 9 = .ok (.iload_n 0, 1) := by decide +kernel
theorem dX6_highestOf_10 : decode cX6_highestOf 10 = .ok (.bipush 104, 2) := by decide +kernel
theorem dX6_highestOf_12 : decode cX6_highestOf 12 = .ok (.if_icmp .ne 7, 3) := by decide +kernel
theorem dX6_highestOf_15 : decode cX6_highestOf 15 = .ok (.iconst 3, 1) := by decide +kernel
theorem dX6_highestOf_16 : decode cX6_highestOf 16 = .ok (.goto 5, 3) := by decide +kernel
theorem dX6_highestOf_19 : decode cX6_highestOf 19 = .ok (.bipush 99, 2) := by decide +kernel
theorem dX6_highestOf_21 : decode cX6_highestOf 21 = .ok (.ireturn, 1) := by decide +kernel
theorem dX6_readNumber_0 : decode cX6_readNumber 0 = .ok (.aload_n 0, 1) := by decide +kernel
theorem dX6_readNumber_1 : decode cX6_readNumber 1 = .ok (.invokevirtual 40, 3) := by decide +kernel
theorem dX6_readNumber_4 : decode cX6_readNumber 4 = .ok (.aload_n 0, 1) := by decide +kernel
theorem dX6_readNumber_5 : decode cX6_readNumber 5 = .ok (.getfield 43, 3) := by decide +kernel
theorem dX6_readNumber_8 : decode cX6_readNumber 8 = .ok (.iconst (-1), 1) := by decide +kernel
theorem dX6_readNumber_9 : decode cX6_readNumber 9 = .ok (.if_icmp .ne 23, 3) := by decide +kernel
theorem dX6_readNumber_12 : decode cX6_readNumber 12 = .ok (.aload_n 0, 1) := by decide +kernel
theorem dX6_readNumber_13 : decode cX6_readNumber 13 = .ok (.getfield 73, 3) := by decide +kernel
theorem dX6_readNumber_16 : decode cX6_readNumber 16 = .ok (.iload_n 1, 1) := by decide +kernel
theorem dX6_readNumber_17 : decode cX6_readNumber 17 = .ok (.if_icmp .lt 15, 3) := by decide +kernel
theorem dX6_readNumber_20 : decode cX6_readNumber 20 = .ok (.aload_n 0, 1) := by decide +kernel
theorem dX6_readNumber_21 : decode cX6_readNumber 21 = .ok (.getfield 73, 3) := by decide +kernel
theorem dX6_readNumber_24 : decode cX6_readNumber 24 = .ok (.iload_n 2, 1) := by decide +kernel
theorem dX6_readNumber_25 : decode cX6_readNumber 25 = .ok (.if_icmp .gt 7, 3) := by decide +kernel
theorem dX6_readNumber_28 : decode cX6_readNumber 28 = .ok (.iconst 1, 1) := by decide +kernel
theorem dX6_readNumber_29 : decode cX6_readNumber 29 = .ok (.goto 4, 3) := by decide +kernel
theorem dX6_readNumber_32 : decode cX6_readNumber 32 = .ok (.iconst 0, 1) := by decide +kernel
theorem dX6_readNumber_33 : decode cX6_readNumber 33 = .ok (.ireturn, 1) := by decide +kernel
theorem dX6_step_0 : decode cX6_step 0 = .ok (.aload_n 0, 1) := by decide +kernel
theorem dX6_step_1 : decode cX6_step 1 = .ok (.getfield 37, 3) := by decide +kernel
theorem dX6_step_4 : decode cX6_step 4 = .ok (.aload_n 0, 1) := by decide +kernel
theorem dX6_step_5 : decode cX6_step 5 = .ok (.getfield 25, 3) := by decide +kernel
theorem dX6_step_8 : decode cX6_step 8 = .ok (.getfield 109, 3) := by decide +kernel
theorem dX6_step_11 : decode cX6_step 11 = .ok (.if_icmp .ge 33, 3) := by decide +kernel
theorem dX6_step_14 : decode cX6_step 14 = .ok (.aload_n 0, 1) := by decide +kernel
theorem dX6_step_15 : decode cX6_step 15 = .ok (.getfield 25, 3) := by decide +kernel
theorem dX6_step_18 : decode cX6_step 18 = .ok (.getfield 114, 3) := by decide +kernel
theorem dX6_step_21 : decode cX6_step 21 = .ok (.aload_n 0, 1) := by decide +kernel
theorem dX6_step_22 : decode cX6_step 22 = .ok (.getfield 37, 3) := by decide +kernel
theorem dX6_step_25 : decode cX6_step 25 = .ok (.iaload, 1) := by decide +kernel
theorem dX6_step_26 : decode cX6_step 26 = .ok (.bipush 32, 2) := by decide +kernel
theorem dX6_step_28 : decode cX6_step 28 = .ok (.if_icmp .ne 16, 3) := by decide +kernel
theorem dX6_step_31 : decode cX6_step 31 = .ok (.aload_n 0, 1) := by decide +kernel
theorem dX6_step_32 : decode cX6_step 32 = .ok (.dup, 1) := by decide +kernel
theorem dX6_step_33 : decode cX6_step 33 = .ok (.getfield 37, 3) := by decide +kernel
theorem dX6_step_36 : decode cX6_step 36 = .ok (.iconst 1, 1) := by decide +kernel
theorem dX6_step_37 : decode cX6_step 37 = .ok (.iadd, 1) := by decide +kernel
theorem dX6_step_38 : decode cX6_step 38 = .ok (.putfield 37, 3) := by decide +kernel
theorem dX6_step_41 : decode cX6_step 41 = .ok (.goto (-41), 3) := by decide +kernel
theorem dX6_step_44 : decode cX6_step 44 = .ok (.aload_n 0, 1) := by decide +kernel
theorem dX6_step_45 : decode cX6_step 45 = .ok (.aload_n 0, 1) := by decide +kernel
theorem dX6_step_46 : decode cX6_step 46 = .ok (.getfield 37, 3) := by decide +kernel
theorem dX6_step_49 : decode cX6_step 49 = .ok (.putfield 53, 3) := by decide +kernel
theorem dX6_step_52 : decode cX6_step 52 = .ok (.aload_n 0, 1) := by decide +kernel
theorem dX6_step_53 : decode cX6_step 53 = .ok (.getfield 37, 3) := by decide +kernel
theorem dX6_step_56 : decode cX6_step 56 = .ok (.aload_n 0, 1) := by decide +kernel
theorem dX6_step_57 : decode cX6_step 57 = .ok (.getfield 25, 3) := by decide +kernel
theorem dX6_step_60 : decode cX6_step 60 = .ok (.getfield 109, 3) := by decide +kernel
theorem dX6_step_63 : decode cX6_step 63 = .ok (.if_icmp .lt 12, 3) := by decide +kernel
theorem dX6_step_66 : decode cX6_step 66 = .ok (.aload_n 0, 1) := by decide +kernel
theorem dX6_step_67 : decode cX6_step 67 = .ok (.bipush (-3), 2) := by decide +kernel
theorem dX6_step_69 : decode cX6_step 69 = .ok (.putfield 43, 3) := by decide +kernel
theorem dX6_step_72 : decode cX6_step 72 = .ok (.goto 54, 3) := by decide +kernel
theorem dX6_step_75 : decode cX6_step 75 = .ok (.aload_n 0, 1) := by decide +kernel
theorem dX6_step_76 : decode cX6_step 76 = .ok (.getfield 25, 3) := by decide +kernel
theorem dX6_step_79 : decode cX6_step 79 = .ok (.getfield 114, 3) := by decide +kernel
theorem dX6_step_82 : decode cX6_step 82 = .ok (.aload_n 0, 1) := by decide +kernel
theorem dX6_step_83 : decode cX6_step 83 = .ok (.getfield 37, 3) := by decide +kernel
theorem dX6_step_86 : decode cX6_step 86 = .ok (.iaload, 1) := by decide +kernel
theorem dX6_step_87 : decode cX6_step 87 = .ok (.invokestatic 118, 3) := by decide +kernel
theorem dX6_step_90 : decode cX6_step 90 = .ok (.ifCond .eq 10, 3) := by decide +kernel
theorem dX6_step_93 : decode cX6_step 93 = .ok (.aload_n 0, 1) := by decide +kernel
theorem dX6_step_94 : decode cX6_step 94 = .ok (.invokevirtual 121, 3) := by decide +kernel
theorem dX6_step_97 : decode cX6_step 97 = .ok (.goto 29, 3) := by decide +kernel
theorem dX6_step_100 : decode cX6_step 100 = .ok (.aload_n 0, 1) := by decide +kernel
theorem dX6_step_101 : decode cX6_step 101 = .ok (.aload_n 0, 1) := by decide +kernel
theorem dX6_step_102 : decode cX6_step 102 = .ok (.getfield 25, 3) := by decide +kernel
theorem dX6_step_105 : decode cX6_step 105 = .ok (.getfield 114, 3) := by decide +kernel
theorem dX6_step_108 : decode cX6_step 108 = .ok (.aload_n 0, 1) := by decide +kernel
theorem dX6_step_109 : decode cX6_step 109 = .ok (.getfield 37, 3) := by decide +kernel
theorem dX6_step_112 : decode cX6_step 112 = .ok (.iaload, 1) := by decide +kernel
theorem dX6_step_113 : decode cX6_step 113 = .ok (.putfield 43, 3) := by decide +kernel
theorem dX6_step_116 : decode cX6_step 116 = .ok (.aload_n 0, 1) := by decide +kernel
theorem dX6_step_117 : decode cX6_step 117 = .ok (.dup, 1) := by decide +kernel
theorem dX6_step_118 : decode cX6_step 118 = .ok (.getfield 37, 3) := by decide +kernel
theorem dX6_step_121 : decode cX6_step 121 = .ok (.iconst 1, 1) := by decide +kernel
theorem dX6_step_122 : decode cX6_step 122 = .ok (.iadd, 1) := by decide +kernel
theorem dX6_step_123 : decode cX6_step 123 = .ok (.putfield 37, 3) := by decide +kernel
theorem dX6_step_126 : decode cX6_step 126 = .ok (.return_, 1) := by decide +kernel
theorem dX6_stepOverNumber_0 : decode cX6_stepOverNumber 0 = .ok (.aload_n 0, 1) := by decide +kernel
theorem dX6_stepOverNumber_1 : decode cX6_stepOverNumber 1 = .ok (.iconst 0, 1) := by decide +kernel
theorem dX6_stepOverNumber_2 : decode cX6_stepOverNumber 2 = .ok (.putfield 73, 3) := by decide +kernel
theorem dX6_stepOverNumber_5 : decode cX6_stepOverNumber 5 = .ok (.aload_n 0, 1) := by decide +kernel
theorem dX6_stepOverNumber_6 : decode cX6_stepOverNumber 6 = .ok (.getfield 37, 3) := by decide +kernel
theorem dX6_stepOverNumber_9 : decode cX6_stepOverNumber 9 = .ok (.aload_n 0, 1) := by decide +kernel
theorem dX6_stepOverNumber_10 : decode cX6_stepOverNumber 10 = .ok (.getfield 25, 3) := by decide +kernel
theorem dX6_stepOverNumber_13 : decode cX6_stepOverNumber 13 = .ok (.getfield 109, 3) := by decide +kernel
theorem dX6_stepOverNumber_16 : decode cX6_stepOverNumber 16 = .ok (.if_icmp .ge 66, 3) := by decide +kernel
theorem dX6_stepOverNumber_19 : decode cX6_stepOverNumber 19 = .ok (.aload_n 0, 1) := by decide +kernel
theorem dX6_stepOverNumber_20 : decode cX6_stepOverNumber 20 = .ok (.getfield 25, 3) := by decide +kernel
theorem dX6_stepOverNumber_23 : decode cX6_stepOverNumber 23 = .ok (.getfield 114, 3) := by decide +kernel
theorem dX6_stepOverNumber_26 : decode cX6_stepOverNumber 26 = .ok (.aload_n 0, 1) := by decide +kernel
theorem dX6_stepOverNumber_27 : decode cX6_stepOverNumber 27 = .ok (.getfield 37, 3) := by decide +kernel
theorem dX6_stepOverNumber_30 : decode cX6_stepOverNumber 30 = .ok (.iaload, 1) := by decide +kernel
theorem dX6_stepOverNumber_31 : decode cX6_stepOverNumber 31 = .ok (.invokestatic 118, 3) := by decide +kernel
theorem dX6_stepOverNumber_34 : decode cX6_stepOverNumber 34 = .ok (.ifCond .eq 48, 3) := by decide +kernel
theorem dX6_stepOverNumber_37 : decode cX6_stepOverNumber 37 = .ok (.aload_n 0, 1) := by decide +kernel
theorem dX6_stepOverNumber_38 : decode cX6_stepOverNumber 38 = .ok (.aload_n 0, 1) := by decide +kernel
theorem dX6_stepOverNumber_39 : decode cX6_stepOverNumber 39 = .ok (.getfield 73, 3) := by decide +kernel
theorem dX6_stepOverNumber_42 : decode cX6_stepOverNumber 42 = .ok (.bipush 10, 2) := by decide +kernel
theorem dX6_stepOverNumber_44 : decode cX6_stepOverNumber 44 = .ok (.imul, 1) := by decide +kernel
theorem dX6_stepOverNumber_45 : decode cX6_stepOverNumber 45 = .ok (.aload_n 0, 1) := by decide +kernel
theorem dX6_stepOverNumber_46 : decode cX6_stepOverNumber 46 = .ok (.getfield 25, 3) := by decide +kernel
theorem dX6_stepOverNumber_49 : decode cX6_stepOverNumber 49 = .ok (.getfield 114, 3) := by decide +kernel
theorem dX6_stepOverNumber_52 : decode cX6_stepOverNumber 52 = .ok (.aload_n 0, 1) := by decide +kernel
theorem dX6_stepOverNumber_53 : decode cX6_stepOverNumber 53 = .ok (.getfield 37, 3) := by decide +kernel
theorem dX6_stepOverNumber_56 : decode cX6_stepOverNumber 56 = .ok (.iaload, 1) := by decide +kernel
theorem dX6_stepOverNumber_57 : decode cX6_stepOverNumber 57 = .ok (.iadd, 1) := by decide +kernel
theorem dX6_stepOverNumber_58 : decode cX6_stepOverNumber 58 = .ok (.bipush 48, 2) := by decide +kernel
theorem dX6_stepOverNumber_60 : decode cX6_stepOverNumber 60 = .ok (.isub, 1) := by decide +kernel
theorem dX6_stepOverNumber_61 : decode cX6_stepOverNumber 61 = .ok (.bipush 100, 2) := by decide +kernel
theorem dX6_stepOverNumber_63 : decode cX6_stepOverNumber 63 = .ok (.invokestatic 124, 3) := by decide +kernel
theorem dX6_stepOverNumber_66 : decode cX6_stepOverNumber 66 = .ok (.putfield 73, 3) := by decide +kernel
theorem dX6_stepOverNumber_69 : decode cX6_stepOverNumber 69 = .ok (.aload_n 0, 1) := by decide +kernel
theorem dX6_stepOverNumber_70 : decode cX6_stepOverNumber 70 = .ok (.dup, 1) := by decide +kernel
theorem dX6_stepOverNumber_71 : decode cX6_stepOverNumber 71 = .ok (.getfield 37, 3) := by decide +kernel
theorem dX6_stepOverNumber_74 : decode cX6_stepOverNumber 74 = .ok (.iconst 1, 1) := by decide +kernel
theorem dX6_stepOverNumber_75 : decode cX6_stepOverNumber 75 = .ok (.iadd, 1) := by decide +kernel
theorem dX6_stepOverNumber_76 : decode cX6_stepOverNumber 76 = .ok (.putfield 37, 3) := by decide +kernel
theorem dX6_stepOverNumber_79 : decode cX6_stepOverNumber 79 = .ok (.goto (-74), 3) := by decide +kernel
theorem dX6_stepOverNumber_82 : decode cX6_stepOverNumber 82 = .ok (.aload_n 0, 1) := by decide +kernel
theorem dX6_stepOverNumber_83 : decode cX6_stepOverNumber 83 = .ok (.getfield 25, 3) := by decide +kernel
theorem dX6_stepOverNumber_86 : decode cX6_stepOverNumber 86 = .ok (.getfield 114, 3) := by decide +kernel
theorem dX6_stepOverNumber_89 : decode cX6_stepOverNumber 89 = .ok (.aload_n 0, 1) := by decide +kernel
theorem dX6_stepOverNumber_90 : decode cX6_stepOverNumber 90 = .ok (.getfield 53, 3) := by decide +kernel
theorem dX6_stepOverNumber_93 : decode cX6_stepOverNumber 93 = .ok (.iaload, 1) := by decide +kernel
theorem dX6_stepOverNumber_94 : decode cX6_stepOverNumber 94 = .ok (.bipush 48, 2) := by decide +kernel
theorem dX6_stepOverNumber_96 : decode cX6_stepOverNumber 96 = .ok (.if_icmp .ne 20, 3) := by decide +kernel
theorem dX6_stepOverNumber_99 : decode cX6_stepOverNumber 99 = .ok (.aload_n 0, 1) := by decide +kernel
theorem dX6_stepOverNumber_100 : decode cX6_stepOverNumber 100 = .ok (.getfield 37, 3) := by decide +kernel
theorem dX6_stepOverNumber_103 : decode cX6_stepOverNumber 103 = .ok (.aload_n 0, 1) := by decide +kernel
theorem dX6_stepOverNumber_104 : decode cX6_stepOverNumber 104 = .ok (.getfield 53, 3) := by decide +kernel
theorem dX6_stepOverNumber_107 : decode cX6_stepOverNumber 107 = .ok (.iconst 1, 1) := by decide +kernel
theorem dX6_stepOverNumber_108 : decode cX6_stepOverNumber 108 = .ok (.iadd, 1) := by decide +kernel
theorem dX6_stepOverNumber_109 : decode cX6_stepOverNumber 109 = .ok (.if_icmp .le 7, 3) := by decide +kernel
theorem dX6_stepOverNumber_112 : decode cX6_stepOverNumber 112 = .ok (.iconst 1, 1) := by decide +kernel
theorem dX6_stepOverNumber_113 : decode cX6_stepOverNumber 113 = .ok (.goto 4, 3) := by decide +kernel
theorem dX6_stepOverNumber_116 : decode cX6_stepOverNumber 116 = .ok (.iconst 0, 1) := by decide +kernel
theorem dX6_stepOverNumber_117 : decode cX6_stepOverNumber 117 = .ok (.istore_n 1, 1) := by decide +kernel
theorem dX6_stepOverNumber_118 : decode cX6_stepOverNumber 118 = .ok (.aload_n 0, 1) := by decide +kernel
theorem dX6_stepOverNumber_119 : decode cX6_stepOverNumber 119 = .ok (.iload_n 1, 1) := by decide +kernel
theorem dX6_stepOverNumber_120 : decode cX6_stepOverNumber 120 = .ok (.ifCond .ne 12, 3) := by decide +kernel
theorem dX6_stepOverNumber_123 : decode cX6_stepOverNumber 123 = .ok (.aload_n 0, 1) := by decide +kernel
theorem dX6_stepOverNumber_124 : decode cX6_stepOverNumber 124 = .ok (.getfield 73, 3) := by decide +kernel
theorem dX6_stepOverNumber_127 : decode cX6_stepOverNumber 127 = .ok (.bipush 99, 2) := by decide +kernel
theorem dX6_stepOverNumber_129 : decode cX6_stepOverNumber 129 = .ok (.if_icmp .le 8, 3) := by decide +kernel
theorem dX6_stepOverNumber_132 : decode cX6_stepOverNumber 132 = .ok (.bipush (-2), 2) := by decide +kernel
theorem dX6_stepOverNumber_134 : decode cX6_stepOverNumber 134 = .ok (.goto 4, 3) := by decide +kernel
theorem dX6_stepOverNumber_137 : decode cX6_stepOverNumber 137 = .ok (.iconst (-1), 1) := by decide +kernel
theorem dX6_stepOverNumber_138 : decode cX6_stepOverNumber 138 = .ok (.putfield 43, 3) := by decide +kernel
theorem dX6_stepOverNumber_141 : decode cX6_stepOverNumber 141 = .ok (.return_, 1) := by decide +kernel
theorem dX6_isDigit_0 : decode cX6_isDigit 0 = .ok (.iload_n 0, 1) := by decide +kernel
theorem dX6_isDigit_1 : decode cX6_isDigit 1 = .ok (.bipush 48, 2) := by decide +kernel
theorem dX6_isDigit_3 : decode cX6_isDigit 3 = .ok (.if_icmp .lt 13, 3) := by decide +kernel
theorem dX6_isDigit_6 : decode cX6_isDigit 6 = .ok (.iload_n 0, 1) := by decide +kernel
theorem dX6_isDigit_7 : decode cX6_isDigit 7 = .ok (.bipush 57, 2) := by decide +kernel
theorem dX6_isDigit_9 : decode cX6_isDigit 9 = .ok (.if_icmp .gt 7, 3) := by decide +kernel
theorem dX6_isDigit_12 : decode cX6_isDigit 12 = .ok (.iconst 1, 1) := by decide +kernel
theorem dX6_isDigit_13 : decode cX6_isDigit 13 = .ok (.goto 4, 3) := by decide +kernel
theorem dX6_isDigit_16 : decode cX6_isDigit 16 = .ok (.iconst 0, 1) := by decide +kernel
theorem dX6_isDigit_17 : decode cX6_isDigit 17 = .ok (.ireturn, 1) := by decide +kernel
theorem dX7_init_0 : decode cX7_init 0 = .ok (.aload_n 0, 1) := by decide +kernel
theorem dX7_init_1 : decode cX7_init 1 = .ok (.invokespecial 1, 3) := by decide +kernel
theorem dX7_init_4 : decode cX7_init 4 = .ok (.aload_n 0, 1) := by decide +kernel
theorem dX7_init_5 : decode cX7_init 5 = .ok (.invokevirtual 7, 3) := by decide +kernel
theorem dX7_init_8 : decode cX7_init 8 = .ok (.return_, 1) := by decide +kernel
theorem dX7_restart_0 : decode cX7_restart 0 = .ok (.aload_n 0, 1) := by decide +kernel
theorem dX7_restart_1 : decode cX7_restart 1 = .ok (.iconst 2, 1) := by decide +kernel
theorem dX7_restart_2 : decode cX7_restart 2 = .ok (.putfield 12, 3) := by decide +kernel
theorem dX7_restart_5 : decode cX7_restart 5 = .ok (.aload_n 0, 1) := by decide +kernel
theorem dX7_restart_6 : decode cX7_restart 6 = .ok (.iconst 0, 1) := by decide +kernel
theorem dX7_restart_7 : decode cX7_restart 7 = .ok (.putfield 16, 3) := by decide +kernel
theorem dX7_restart_10 : decode cX7_restart 10 = .ok (.aload_n 0, 1) := by decide +kernel
theorem dX7_restart_11 : decode cX7_restart 11 = .ok (.iconst 0, 1) := by decide +kernel
theorem dX7_restart_12 : decode cX7_restart 12 = .ok (.putfield 19, 3) := by decide +kernel
theorem dX7_restart_15 : decode cX7_restart 15 = .ok (.aload_n 0, 1) := by decide +kernel
theorem dX7_restart_16 : decode cX7_restart 16 = .ok (.bipush 99, 2) := by decide +kernel
theorem dX7_restart_18 : decode cX7_restart 18 = .ok (.putfield 22, 3) := by decide +kernel
theorem dX7_restart_21 : decode cX7_restart 21 = .ok (.aload_n 0, 1) := by decide +kernel
theorem dX7_restart_22 : decode cX7_restart 22 = .ok (.bipush 60, 2) := by decide +kernel
theorem dX7_restart_24 : decode cX7_restart 24 = .ok (.putfield 25, 3) := by decide +kernel
theorem dX7_restart_27 : decode cX7_restart 27 = .ok (.aload_n 0, 1) := by decide +kernel
theorem dX7_restart_28 : decode cX7_restart 28 = .ok (.iconst 0, 1) := by decide +kernel
theorem dX7_restart_29 : decode cX7_restart 29 = .ok (.putfield 28, 3) := by decide +kernel
theorem dX7_restart_32 : decode cX7_restart 32 = .ok (.return_, 1) := by decide +kernel
theorem dX7_copyFrom_0 : decode cX7_copyFrom 0 = .ok (.aload_n 0, 1) := by decide +kernel
theorem dX7_copyFrom_1 : decode cX7_copyFrom 1 = .ok (.aload_n 1, 1) := by decide +kernel
theorem dX7_copyFrom_2 : decode cX7_copyFrom 2 = .ok (.getfield 12, 3) := by decide +kernel
theorem dX7_copyFrom_5 : decode cX7_copyFrom 5 = .ok (.putfield 12, 3) := by decide +kernel
theorem dX7_copyFrom_8 : decode cX7_copyFrom 8 = .ok (.aload_n 0, 1) := by decide +kernel
theorem dX7_copyFrom_9 : decode cX7_copyFrom 9 = .ok (.aload_n 1, 1) := by decide +kernel
theorem dX7_copyFrom_10 : decode cX7_copyFrom 10 = .ok (.getfield 16, 3) := by decide +kernel
theorem dX7_copyFrom_13 : decode cX7_copyFrom 13 = .ok (.putfield 16, 3) := by decide +kernel
theorem dX7_copyFrom_16 : decode cX7_copyFrom 16 = .ok (.aload_n 0, 1) := by decide +kernel
theorem dX7_copyFrom_17 : decode cX7_copyFrom 17 = .ok (.aload_n 1, 1) := by decide +kernel
theorem dX7_copyFrom_18 : decode cX7_copyFrom 18 = .ok (.getfield 19, 3) := by decide +kernel
theorem dX7_copyFrom_21 : decode cX7_copyFrom 21 = .ok (.putfield 19, 3) := by decide +kernel
theorem dX7_copyFrom_24 : decode cX7_copyFrom 24 = .ok (.aload_n 0, 1) := by decide +kernel
theorem dX7_copyFrom_25 : decode cX7_copyFrom 25 = .ok (.aload_n 1, 1) := by decide +kernel
theorem dX7_copyFrom_26 : decode cX7_copyFrom 26 = .ok (.getfield 22, 3) := by decide +kernel
theorem dX7_copyFrom_29 : decode cX7_copyFrom 29 = .ok (.putfield 22, 3) := by decide +kernel
theorem dX7_copyFrom_32 : decode cX7_copyFrom 32 = .ok (.aload_n 0, 1) := by decide +kernel
theorem dX7_copyFrom_33 : decode cX7_copyFrom 33 = .ok (.aload_n 1, 1) := by decide +kernel
theorem dX7_copyFrom_34 : decode cX7_copyFrom 34 = .ok (.getfield 25, 3) := by decide +kernel
theorem dX7_copyFrom_37 : decode cX7_copyFrom 37 = .ok (.putfield 25, 3) := by decide +kernel
theorem dX7_copyFrom_40 : decode cX7_copyFrom 40 = .ok (.aload_n 0, 1) := by decide +kernel
theorem dX7_copyFrom_41 : decode cX7_copyFrom 41 = .ok (.aload_n 1, 1) := by decide +kernel
theorem dX7_copyFrom_42 : decode cX7_copyFrom 42 = .ok (.getfield 28, 3) := by decide +kernel
theorem dX7_copyFrom_45 : decode cX7_copyFrom 45 = .ok (.putfield 28, 3) := by decide +kernel
theorem dX7_copyFrom_48 : decode cX7_copyFrom 48 = .ok (.return_, 1) := by decide +kernel
theorem dX8_init_0 : decode cX8_init 0 = .ok (.aload_n 0, 1) := by decide +kernel
theorem dX8_init_1 : decode cX8_init 1 = .ok (.invokespecial 3, 3) := by decide +kernel
theorem dX8_init_4 : decode cX8_init 4 = .ok (.aload_n 0, 1) := by decide +kernel
theorem dX8_init_5 : decode cX8_init 5 = .ok (.bipush 6, 2) := by decide +kernel
theorem dX8_init_7 : decode cX8_init 7 = .ok (.newarray .int, 2) := by decide +kernel
theorem dX8_init_9 : decode cX8_init 9 = .ok (.putfield 9, 3) := by decide +kernel
theorem dX8_init_12 : decode cX8_init 12 = .ok (.aload_n 0, 1) := by decide +kernel
theorem dX8_init_13 : decode cX8_init 13 = .ok (.bipush 6, 2) := by decide +kernel
theorem dX8_init_15 : decode cX8_init 15 = .ok (.newarray .int, 2) := by decide +kernel
theorem dX8_init_17 : decode cX8_init 17 = .ok (.putfield 15, 3) := by decide +kernel
theorem dX8_init_20 : decode cX8_init 20 = .ok (.aload_n 0, 1) := by decide +kernel
theorem dX8_init_21 : decode cX8_init 21 = .ok (.bipush 6, 2) := by decide +kernel
theorem dX8_init_23 : decode cX8_init 23 = .ok (.newarray .int, 2) := by decide +kernel
theorem dX8_init_25 : decode cX8_init 25 = .ok (.putfield 18, 3) := by decide +kernel
theorem dX8_init_28 : decode cX8_init 28 = .ok (.return_, 1) := by decide +kernel
theorem dX8_append_0 : decode cX8_append 0 = .ok (.aload_n 0, 1) := by decide +kernel
theorem dX8_append_1 : decode cX8_append 1 = .ok (.getfield 21, 3) := by decide +kernel
theorem dX8_append_4 : decode cX8_append 4 = .ok (.bipush 6, 2) := by decide +kernel
theorem dX8_append_6 : decode cX8_append 6 = .ok (.if_icmp .lt 5, 3) := by decide +kernel
theorem dX8_append_9 : decode cX8_append 9 = .ok (.iconst 0, 1) := by decide +kernel
theorem dX8_append_10 : decode cX8_append 10 = .ok (.ireturn, 1) := by decide +kernel
theorem dX8_append_11 : decode cX8_append 11 = .ok (.aload_n 0, 1) := by decide +kernel
theorem dX8_append_12 : decode cX8_append 12 = .ok (.getfield 9, 3) := by decide +kernel
theorem dX8_append_15 : decode cX8_append 15 = .ok (.aload_n 0, 1) := by decide +kernel
theorem dX8_append_16 : decode cX8_append 16 = .ok (.getfield 21, 3) := by decide +kernel
theorem dX8_append_19 : decode cX8_append 19 = .ok (.iload_n 1, 1) := by decide +kernel
theorem dX8_append_20 : decode cX8_append 20 = .ok (.iastore, 1) := by decide +kernel
theorem dX8_append_21 : decode cX8_append 21 = .ok (.aload_n 0, 1) := by decide +kernel
theorem dX8_append_22 : decode cX8_append 22 = .ok (.getfield 15, 3) := by decide +kernel
theorem dX8_append_25 : decode cX8_append 25 = .ok (.aload_n 0, 1) := by decide +kernel
theorem dX8_append_26 : decode cX8_append 26 = .ok (.getfield 21, 3) := by decide +kernel
theorem dX8_append_29 : decode cX8_append 29 = .ok (.iload_n 2, 1) := by decide +kernel
theorem dX8_append_30 : decode cX8_append 30 = .ok (.iastore, 1) := by decide +kernel
theorem dX8_append_31 : decode cX8_append 31 = .ok (.aload_n 0, 1) := by decide +kernel
theorem dX8_append_32 : decode cX8_append 32 = .ok (.getfield 18, 3) := by decide +kernel
theorem dX8_append_35 : decode cX8_append 35 = .ok (.aload_n 0, 1) := by decide +kernel
theorem dX8_append_36 : decode cX8_append 36 = .ok (.getfield 21, 3) := by decide +kernel
theorem dX8_append_39 : decode cX8_append 39 = .ok (.iload_n 3, 1) := by decide +kernel
theorem dX8_append_40 : decode cX8_append 40 = .ok (.iastore, 1) := by decide +kernel
theorem dX8_append_41 : decode cX8_append 41 = .ok (.aload_n 0, 1) := by decide +kernel
theorem dX8_append_42 : decode cX8_append 42 = .ok (.dup, 1) := by decide +kernel
theorem dX8_append_43 : decode cX8_append 43 = .ok (.getfield 21, 3) := by decide +kernel
theorem dX8_append_46 : decode cX8_append 46 = .ok (.iconst 1, 1) := by decide +kernel
theorem dX8_append_47 : decode cX8_append 47 = .ok (.iadd, 1) := by decide +kernel
theorem dX8_append_48 : decode cX8_append 48 = .ok (.putfield 21, 3) := by decide +kernel
theorem dX8_append_51 : decode cX8_append 51 = .ok (.iconst 1, 1) := by decide +kernel
theorem dX8_append_52 : decode cX8_append 52 = .ok (.ireturn, 1) := by decide +kernel
theorem dX8_agree_0 : decode cX8_agree 0 = .ok (.iconst 0, 1) := by decide +kernel
theorem dX8_agree_1 : decode cX8_agree 1 = .ok (.istore_n 2, 1) := by decide +kernel
theorem dX8_agree_2 : decode cX8_agree 2 = .ok (.iload_n 2, 1) := by decide +kernel
theorem dX8_agree_3 : decode cX8_agree 3 = .ok (.aload_n 0, 1) := by decide +kernel
theorem dX8_agree_4 : decode cX8_agree 4 = .ok (.getfield 21, 3) := by decide +kernel
theorem dX8_agree_7 : decode cX8_agree 7 = .ok (.if_icmp .ge 48, 3) := by decide +kernel
theorem dX8_agree_10 : decode cX8_agree 10 = .ok (.aload_n 1, 1) := by decide +kernel
theorem dX8_agree_11 : decode cX8_agree 11 = .ok (.aload_n 0, 1) := by decide +kernel
theorem dX8_agree_12 : decode cX8_agree 12 = .ok (.getfield 9, 3) := by decide +kernel
theorem dX8_agree_15 : decode cX8_agree 15 = .ok (.iload_n 2, 1) := by decide +kernel
theorem dX8_agree_16 : decode cX8_agree 16 = .ok (.iaload, 1) := by decide +kernel
theorem dX8_agree_17 : decode cX8_agree 17 = .ok (.aload_n 0, 1) := by decide +kernel
theorem dX8_agree_18 : decode cX8_agree 18 = .ok (.getfield 15, 3) := by decide +kernel
theorem dX8_agree_21 : decode cX8_agree 21 = .ok (.iload_n 2, 1) := by decide +kernel
theorem dX8_agree_22 : decode cX8_agree 22 = .ok (.iaload, 1) := by decide +kernel
theorem dX8_agree_23 : decode cX8_agree 23 = .ok (.invokevirtual 25, 3) := by decide +kernel
theorem dX8_agree_26 : decode cX8_agree 26 = .ok (.istore_n 3, 1) := by decide +kernel
theorem dX8_agree_27 : decode cX8_agree 27 = .ok (.iload_n 3, 1) := by decide +kernel
theorem dX8_agree_28 : decode cX8_agree 28 = .ok (.bipush (-9), 2) := by decide +kernel
theorem dX8_agree_30 : decode cX8_agree 30 = .ok (.if_icmp .ne 7, 3) := by decide +kernel
theorem dX8_agree_33 : decode cX8_agree 33 = .ok (.iconst 0, 1) := by decide +kernel
theorem dX8_agree_34 : decode cX8_agree 34 = .ok (.goto 4, 3) := by decide +kernel
theorem dX8_agree_37 : decode cX8_agree 37 = .ok (.iload_n 3, 1) := by decide +kernel
theorem dX8_agree_38 : decode cX8_agree 38 = .ok (.aload_n 0, 1) := by decide +kernel
theorem dX8_agree_39 : decode cX8_agree 39 = .ok (.getfield 18, 3) := by decide +kernel
theorem dX8_agree_42 : decode cX8_agree 42 = .ok (.iload_n 2, 1) := by decide +kernel
theorem dX8_agree_43 : decode cX8_agree 43 = .ok (.iaload, 1) := by decide +kernel
theorem dX8_agree_44 : decode cX8_agree 44 = .ok (.if_icmp .eq 5, 3) := by decide +kernel
theorem dX8_agree_47 : decode cX8_agree 47 = .ok (.iconst 0, 1) := by decide +kernel
theorem dX8_agree_48 : decode cX8_agree 48 = .ok (.ireturn, 1) := by decide +kernel
theorem dX8_agree_49 : decode cX8_agree 49 = .ok (.iinc 2 1, 3) := by decide +kernel
theorem dX8_agree_52 : decode cX8_agree 52 = .ok (.goto (-50), 3) := by decide +kernel
theorem dX8_agree_55 : decode cX8_agree 55 = .ok (.iconst 1, 1) := by decide +kernel
theorem dX8_agree_56 : decode cX8_agree 56 = .ok (.ireturn, 1) := by decide +kernel
theorem dX9_init_0 : decode cX9_init 0 = .ok (.aload_n 0, 1) := by decide +kernel
theorem dX9_init_1 : decode cX9_init 1 = .ok (.invokespecial 3, 3) := by decide +kernel
theorem dX9_init_4 : decode cX9_init 4 = .ok (.aload_n 0, 1) := by decide +kernel
theorem dX9_init_5 : decode cX9_init 5 = .ok (.bipush 120, 2) := by decide +kernel
theorem dX9_init_7 : decode cX9_init 7 = .ok (.newarray .int, 2) := by decide +kernel
theorem dX9_init_9 : decode cX9_init 9 = .ok (.putfield 9, 3) := by decide +kernel
theorem dX9_init_12 : decode cX9_init 12 = .ok (.return_, 1) := by decide +kernel
theorem dX9_append_0 : decode cX9_append 0 = .ok (.aload_n 0, 1) := by decide +kernel
theorem dX9_append_1 : decode cX9_append 1 = .ok (.getfield 15, 3) := by decide +kernel
theorem dX9_append_4 : decode cX9_append 4 = .ok (.bipush 120, 2) := by decide +kernel
theorem dX9_append_6 : decode cX9_append 6 = .ok (.if_icmp .lt 5, 3) := by decide +kernel
theorem dX9_append_9 : decode cX9_append 9 = .ok (.iconst 0, 1) := by decide +kernel
theorem dX9_append_10 : decode cX9_append 10 = .ok (.ireturn, 1) := by decide +kernel
theorem dX9_append_11 : decode cX9_append 11 = .ok (.aload_n 0, 1) := by decide +kernel
theorem dX9_append_12 : decode cX9_append 12 = .ok (.getfield 9, 3) := by decide +kernel
theorem dX9_append_15 : decode cX9_append 15 = .ok (.aload_n 0, 1) := by decide +kernel
theorem dX9_append_16 : decode cX9_append 16 = .ok (.getfield 15, 3) := by decide +kernel
theorem dX9_append_19 : decode cX9_append 19 = .ok (.iload_n 1, 1) := by decide +kernel
theorem dX9_append_20 : decode cX9_append 20 = .ok (.iastore, 1) := by decide +kernel
theorem dX9_append_21 : decode cX9_append 21 = .ok (.aload_n 0, 1) := by decide +kernel
theorem dX9_append_22 : decode cX9_append 22 = .ok (.dup, 1) := by decide +kernel
theorem dX9_append_23 : decode cX9_append 23 = .ok (.getfield 15, 3) := by decide +kernel
theorem dX9_append_26 : decode cX9_append 26 = .ok (.iconst 1, 1) := by decide +kernel
theorem dX9_append_27 : decode cX9_append 27 = .ok (.iadd, 1) := by decide +kernel
theorem dX9_append_28 : decode cX9_append 28 = .ok (.putfield 15, 3) := by decide +kernel
theorem dX9_append_31 : decode cX9_append 31 = .ok (.iconst 1, 1) := by decide +kernel
theorem dX9_append_32 : decode cX9_append 32 = .ok (.ireturn, 1) := by decide +kernel
theorem dX10_init_0 : decode cX10_init 0 = .ok (.aload_n 0, 1) := by decide +kernel
theorem dX10_init_1 : decode cX10_init 1 = .ok (.invokespecial 3, 3) := by decide +kernel
theorem dX10_init_4 : decode cX10_init 4 = .ok (.aload_n 0, 1) := by decide +kernel
theorem dX10_init_5 : decode cX10_init 5 = .ok (.bipush 6, 2) := by decide +kernel
theorem dX10_init_7 : decode cX10_init 7 = .ok (.newarray .int, 2) := by decide +kernel
theorem dX10_init_9 : decode cX10_init 9 = .ok (.putfield 9, 3) := by decide +kernel
theorem dX10_init_12 : decode cX10_init 12 = .ok (.aload_n 0, 1) := by decide +kernel
theorem dX10_init_13 : decode cX10_init 13 = .ok (.aload_n 1, 1) := by decide +kernel
theorem dX10_init_14 : decode cX10_init 14 = .ok (.putfield 15, 3) := by decide +kernel
theorem dX10_init_17 : decode cX10_init 17 = .ok (.return_, 1) := by decide +kernel
theorem dX10_follow_0 : decode cX10_follow 0 = .ok (.aload_n 0, 1) := by decide +kernel
theorem dX10_follow_1 : decode cX10_follow 1 = .ok (.iconst 0, 1) := by decide +kernel
theorem dX10_follow_2 : decode cX10_follow 2 = .ok (.putfield 19, 3) := by decide +kernel
theorem dX10_follow_5 : decode cX10_follow 5 = .ok (.iconst 0, 1) := by decide +kernel
theorem dX10_follow_6 : decode cX10_follow 6 = .ok (.istore_n 3, 1) := by decide +kernel
theorem dX10_follow_7 : decode cX10_follow 7 = .ok (.iload_n 1, 1) := by decide +kernel
theorem dX10_follow_8 : decode cX10_follow 8 = .ok (.istore 4, 2) := by decide +kernel
theorem dX10_follow_10 : decode cX10_follow 10 = .ok (.iconst 0, 1) := by decide +kernel
theorem dX10_follow_11 : decode cX10_follow 11 = .ok (.istore 5, 2) := by decide +kernel
theorem dX10_follow_13 : decode cX10_follow 13 = .ok (.iload 5, 2) := by decide +kernel
theorem dX10_follow_15 : decode cX10_follow 15 = .ok (.bipush 6, 2) := by decide +kernel
theorem dX10_follow_17 : decode cX10_follow 17 = .ok (.if_icmp .ge 101, 3) := by decide +kernel
theorem dX10_follow_20 : decode cX10_follow 20 = .ok (.aload_n 0, 1) := by decide +kernel
theorem dX10_follow_21 : decode cX10_follow 21 = .ok (.getfield 9, 3) := by decide +kernel
theorem dX10_follow_24 : decode cX10_follow 24 = .ok (.iload 5, 2) := by decide +kernel
theorem dX10_follow_26 : decode cX10_follow 26 = .ok (.iload 4, 2) := by decide +kernel
theorem dX10_follow_28 : decode cX10_follow 28 = .ok (.iastore, 1) := by decide +kernel
theorem dX10_follow_29 : decode cX10_follow 29 = .ok (.aload_n 0, 1) := by decide +kernel
theorem dX10_follow_30 : decode cX10_follow 30 = .ok (.iload 5, 2) := by decide +kernel
theorem dX10_follow_32 : decode cX10_follow 32 = .ok (.iconst 1, 1) := by decide +kernel
theorem dX10_follow_33 : decode cX10_follow 33 = .ok (.iadd, 1) := by decide +kernel
theorem dX10_follow_34 : decode cX10_follow 34 = .ok (.putfield 23, 3) := by decide +kernel
theorem dX10_follow_37 : decode cX10_follow 37 = .ok (.iload_n 3, 1) := by decide +kernel
theorem dX10_follow_38 : decode cX10_follow 38 = .ok (.iconst 1, 1) := by decide +kernel
theorem dX10_follow_39 : decode cX10_follow 39 = .ok (.iload 4, 2) := by decide +kernel
theorem dX10_follow_41 : decode cX10_follow 41 = .ok (.ishl, 1) := by decide +kernel
theorem dX10_follow_42 : decode cX10_follow 42 = .ok (.ior, 1) := by decide +kernel
theorem dX10_follow_43 : decode cX10_follow 43 = .ok (.istore_n 3, 1) := by decide +kernel
theorem dX10_follow_44 : decode cX10_follow 44 = .ok (.iload 4, 2) := by decide +kernel
theorem dX10_follow_46 : decode cX10_follow 46 = .ok (.iload_n 2, 1) := by decide +kernel
theorem dX10_follow_47 : decode cX10_follow 47 = .ok (.if_icmp .ne 5, 3) := by decide +kernel
theorem dX10_follow_50 : decode cX10_follow 50 = .ok (.iconst 1, 1) := by decide +kernel
theorem dX10_follow_51 : decode cX10_follow 51 = .ok (.ireturn, 1) := by decide +kernel
theorem dX10_follow_52 : decode cX10_follow 52 = .ok (.aload_n 0, 1) := by decide +kernel
theorem dX10_follow_53 : decode cX10_follow 53 = .ok (.getfield 15, 3) := by decide +kernel
theorem dX10_follow_56 : decode cX10_follow 56 = .ok (.iload 4, 2) := by decide +kernel
theorem dX10_follow_58 : decode cX10_follow 58 = .ok (.iload_n 2, 1) := by decide +kernel
theorem dX10_follow_59 : decode cX10_follow 59 = .ok (.invokevirtual 26, 3) := by decide +kernel
theorem dX10_follow_62 : decode cX10_follow 62 = .ok (.istore 6, 2) := by decide +kernel
theorem dX10_follow_64 : decode cX10_follow 64 = .ok (.iload 6, 2) := by decide +kernel
theorem dX10_follow_66 : decode cX10_follow 66 = .ok (.bipush (-9), 2) := by decide +kernel
theorem dX10_follow_68 : decode cX10_follow 68 = .ok (.if_icmp .eq 12, 3) := by decide +kernel
theorem dX10_follow_71 : decode cX10_follow 71 = .ok (.iload_n 3, 1) := by decide +kernel
theorem dX10_follow_72 : decode cX10_follow 72 = .ok (.iconst 1, 1) := by decide +kernel
theorem dX10_follow_73 : decode cX10_follow 73 = .ok (.iload 6, 2) := by decide +kernel
theorem dX10_follow_75 : decode cX10_follow 75 = .ok (.ishl, 1) := by decide +kernel
theorem dX10_follow_76 : decode cX10_follow 76 = .ok (.iand, 1) := by decide +kernel
theorem dX10_follow_77 : decode cX10_follow 77 = .ok (.ifCond .eq 5, 3) := by decide +kernel
theorem dX10_follow_80 : decode cX10_follow 80 = .ok (.iconst 0, 1) := by decide +kernel
theorem dX10_follow_81 : decode cX10_follow 81 = .ok (.ireturn, 1) := by decide +kernel
theorem dX10_follow_82 : decode cX10_follow 82 = .ok (.aload_n 0, 1) := by decide +kernel
theorem dX10_follow_83 : decode cX10_follow 83 = .ok (.dup, 1) := by decide +kernel
theorem dX10_follow_84 : decode cX10_follow 84 = .ok (.getfield 19, 3) := by decide +kernel
theorem dX10_follow_87 : decode cX10_follow 87 = .ok (.aload_n 0, 1) := by decide +kernel
theorem dX10_follow_88 : decode cX10_follow 88 = .ok (.getfield 15, 3) := by decide +kernel
theorem dX10_follow_91 : decode cX10_follow 91 = .ok (.getfield 32, 3) := by decide +kernel
theorem dX10_follow_94 : decode cX10_follow 94 = .ok (.getfield 36, 3) := by decide +kernel
theorem dX10_follow_97 : decode cX10_follow 97 = .ok (.iload 4, 2) := by decide +kernel
theorem dX10_follow_99 : decode cX10_follow 99 = .ok (.iload 6, 2) := by decide +kernel
theorem dX10_follow_101 : decode cX10_follow 101 = .ok (.invokevirtual 42, 3) := by decide +kernel
theorem dX10_follow_104 : decode cX10_follow 104 = .ok (.iadd, 1) := by decide +kernel
theorem dX10_follow_105 : decode cX10_follow 105 = .ok (.putfield 19, 3) := by decide +kernel
theorem dX10_follow_108 : decode cX10_follow 108 = .ok (.iload 6, 2) := by decide +kernel
theorem dX10_follow_110 : decode cX10_follow 110 = .ok (.istore 4, 2) := by decide +kernel
theorem dX10_follow_112 : decode cX10_follow 112 = .ok (.iinc 5 1, 3) := by decide +kernel
theorem dX10_follow_115 : decode cX10_follow 115 = .ok (.goto (-102), 3) := by decide +kernel
theorem dX10_follow_118 : decode cX10_follow 118 = .ok (.iconst 0, 1) := by decide +kernel
theorem dX10_follow_119 : decode cX10_follow 119 = .ok (.ireturn, 1) := by decide +kernel
