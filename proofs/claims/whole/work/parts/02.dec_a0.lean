theorem dX0_init_0 : decode cX0_init 0 = .ok (.aload_n 0, 1) := by decide +kernel
theorem dX0_init_1 : decode cX0_init 1 = .ok (.invokespecial 3, 3) := by decide +kernel
theorem dX0_init_4 : decode cX0_init 4 = .ok (.aload_n 0, 1) := by decide +kernel
theorem dX0_init_5 : decode cX0_init 5 = .ok (.iconst 2, 1) := by decide +kernel
theorem dX0_init_6 : decode cX0_init 6 = .ok (.anewarray 9, 3) := by decide +kernel
theorem dX0_init_9 : decode cX0_init 9 = .ok (.putfield 11, 3) := by decide +kernel
theorem dX0_init_12 : decode cX0_init 12 = .ok (.aload_n 0, 1) := by decide +kernel
theorem dX0_init_13 : decode cX0_init 13 = .ok (.iconst 2, 1) := by decide +kernel
theorem dX0_init_14 : decode cX0_init 14 = .ok (.newarray .boolean, 2) := by decide +kernel
theorem dX0_init_16 : decode cX0_init 16 = .ok (.putfield 17, 3) := by decide +kernel
theorem dX0_init_19 : decode cX0_init 19 = .ok (.iconst 0, 1) := by decide +kernel
theorem dX0_init_20 : decode cX0_init 20 = .ok (.istore_n 1, 1) := by decide +kernel
theorem dX0_init_21 : decode cX0_init 21 = .ok (.iload_n 1, 1) := by decide +kernel
theorem dX0_init_22 : decode cX0_init 22 = .ok (.iconst 2, 1) := by decide +kernel
theorem dX0_init_23 : decode cX0_init 23 = .ok (.if_icmp .ge 22, 3) := by decide +kernel
theorem dX0_init_26 : decode cX0_init 26 = .ok (.aload_n 0, 1) := by decide +kernel
theorem dX0_init_27 : decode cX0_init 27 = .ok (.getfield 11, 3) := by decide +kernel
theorem dX0_init_30 : decode cX0_init 30 = .ok (.iload_n 1, 1) := by decide +kernel
theorem dX0_init_31 : decode cX0_init 31 = .ok (.new 9, 3) := by decide +kernel
theorem dX0_init_34 : decode cX0_init 34 = .ok (.dup, 1) := by decide +kernel
theorem dX0_init_35 : decode cX0_init 35 = .ok (.invokespecial 21, 3) := by decide +kernel
theorem dX0_init_38 : decode cX0_init 38 = .ok (.aastore, 1) := by decide +kernel
theorem dX0_init_39 : decode cX0_init 39 = .ok (.iinc 1 1, 3) := by decide +kernel
theorem dX0_init_42 : decode cX0_init 42 = .ok (.goto (-21), 3) := by decide +kernel
theorem dX0_init_45 : decode cX0_init 45 = .ok (.return_, 1) := by decide +kernel
theorem dX0_drop_0 : decode cX0_drop 0 = .ok (.iconst 0, 1) := by decide +kernel
theorem dX0_drop_1 : decode cX0_drop 1 = .ok (.istore_n 1, 1) := by decide +kernel
theorem dX0_drop_2 : decode cX0_drop 2 = .ok (.iload_n 1, 1) := by decide +kernel
theorem dX0_drop_3 : decode cX0_drop 3 = .ok (.iconst 2, 1) := by decide +kernel
theorem dX0_drop_4 : decode cX0_drop 4 = .ok (.if_icmp .ge 16, 3) := by decide +kernel
theorem dX0_drop_7 : decode cX0_drop 7 = .ok (.aload_n 0, 1) := by decide +kernel
theorem dX0_drop_8 : decode cX0_drop 8 = .ok (.getfield 17, 3) := by decide +kernel
theorem dX0_drop_11 : decode cX0_drop 11 = .ok (.iload_n 1, 1) := by decide +kernel
theorem dX0_drop_12 : decode cX0_drop 12 = .ok (.iconst 0, 1) := by decide +kernel
theorem dX0_drop_13 : decode cX0_drop 13 = .ok (.bastore, 1) := by decide +kernel
theorem dX0_drop_14 : decode cX0_drop 14 = .ok (.iinc 1 1, 3) := by decide +kernel
theorem dX0_drop_17 : decode cX0_drop 17 = .ok (.goto (-15), 3) := by decide +kernel
theorem dX0_drop_20 : decode cX0_drop 20 = .ok (.return_, 1) := by decide +kernel
theorem dX1_init_0 : decode cX1_init 0 = .ok (.aload_n 0, 1) := by decide +kernel
theorem dX1_init_1 : decode cX1_init 1 = .ok (.invokespecial 3, 3) := by decide +kernel
theorem dX1_init_4 : decode cX1_init 4 = .ok (.aload_n 0, 1) := by decide +kernel
theorem dX1_init_5 : decode cX1_init 5 = .ok (.new 9, 3) := by decide +kernel
theorem dX1_init_8 : decode cX1_init 8 = .ok (.dup, 1) := by decide +kernel
theorem dX1_init_9 : decode cX1_init 9 = .ok (.invokespecial 11, 3) := by decide +kernel
theorem dX1_init_12 : decode cX1_init 12 = .ok (.putfield 12, 3) := by decide +kernel
theorem dX1_init_15 : decode cX1_init 15 = .ok (.aload_n 0, 1) := by decide +kernel
theorem dX1_init_16 : decode cX1_init 16 = .ok (.bipush 36, 2) := by decide +kernel
theorem dX1_init_18 : decode cX1_init 18 = .ok (.newarray .int, 2) := by decide +kernel
theorem dX1_init_20 : decode cX1_init 20 = .ok (.putfield 18, 3) := by decide +kernel
theorem dX1_init_23 : decode cX1_init 23 = .ok (.aload_n 0, 1) := by decide +kernel
theorem dX1_init_24 : decode cX1_init 24 = .ok (.sipush 216, 3) := by decide +kernel
theorem dX1_init_27 : decode cX1_init 27 = .ok (.newarray .int, 2) := by decide +kernel
theorem dX1_init_29 : decode cX1_init 29 = .ok (.putfield 22, 3) := by decide +kernel
theorem dX1_init_32 : decode cX1_init 32 = .ok (.aload_n 0, 1) := by decide +kernel
theorem dX1_init_33 : decode cX1_init 33 = .ok (.sipush 216, 3) := by decide +kernel
theorem dX1_init_36 : decode cX1_init 36 = .ok (.newarray .int, 2) := by decide +kernel
theorem dX1_init_38 : decode cX1_init 38 = .ok (.putfield 25, 3) := by decide +kernel
theorem dX1_init_41 : decode cX1_init 41 = .ok (.aload_n 0, 1) := by decide +kernel
theorem dX1_init_42 : decode cX1_init 42 = .ok (.bipush 6, 2) := by decide +kernel
theorem dX1_init_44 : decode cX1_init 44 = .ok (.newarray .int, 2) := by decide +kernel
theorem dX1_init_46 : decode cX1_init 46 = .ok (.putfield 28, 3) := by decide +kernel
theorem dX1_init_49 : decode cX1_init 49 = .ok (.aload_n 0, 1) := by decide +kernel
theorem dX1_init_50 : decode cX1_init 50 = .ok (.bipush 6, 2) := by decide +kernel
theorem dX1_init_52 : decode cX1_init 52 = .ok (.newarray .int, 2) := by decide +kernel
theorem dX1_init_54 : decode cX1_init 54 = .ok (.putfield 31, 3) := by decide +kernel
theorem dX1_init_57 : decode cX1_init 57 = .ok (.aload_n 0, 1) := by decide +kernel
theorem dX1_init_58 : decode cX1_init 58 = .ok (.bipush 101, 2) := by decide +kernel
theorem dX1_init_60 : decode cX1_init 60 = .ok (.newarray .int, 2) := by decide +kernel
theorem dX1_init_62 : decode cX1_init 62 = .ok (.putfield 34, 3) := by decide +kernel
theorem dX1_init_65 : decode cX1_init 65 = .ok (.return_, 1) := by decide +kernel
theorem dX1_restart_0 : decode cX1_restart 0 = .ok (.aload_n 0, 1) := by decide +kernel
theorem dX1_restart_1 : decode cX1_restart 1 = .ok (.getfield 12, 3) := by decide +kernel
theorem dX1_restart_4 : decode cX1_restart 4 = .ok (.aload_n 1, 1) := by decide +kernel
theorem dX1_restart_5 : decode cX1_restart 5 = .ok (.invokevirtual 37, 3) := by decide +kernel
theorem dX1_restart_8 : decode cX1_restart 8 = .ok (.aload_n 0, 1) := by decide +kernel
theorem dX1_restart_9 : decode cX1_restart 9 = .ok (.getfield 18, 3) := by decide +kernel
theorem dX1_restart_12 : decode cX1_restart 12 = .ok (.iconst 0, 1) := by decide +kernel
theorem dX1_restart_13 : decode cX1_restart 13 = .ok (.invokestatic 41, 3) := by decide +kernel
theorem dX1_restart_16 : decode cX1_restart 16 = .ok (.aload_n 0, 1) := by decide +kernel
theorem dX1_restart_17 : decode cX1_restart 17 = .ok (.getfield 25, 3) := by decide +kernel
theorem dX1_restart_20 : decode cX1_restart 20 = .ok (.iconst 0, 1) := by decide +kernel
theorem dX1_restart_21 : decode cX1_restart 21 = .ok (.invokestatic 41, 3) := by decide +kernel
theorem dX1_restart_24 : decode cX1_restart 24 = .ok (.aload_n 0, 1) := by decide +kernel
theorem dX1_restart_25 : decode cX1_restart 25 = .ok (.getfield 28, 3) := by decide +kernel
theorem dX1_restart_28 : decode cX1_restart 28 = .ok (.iconst 0, 1) := by decide +kernel
theorem dX1_restart_29 : decode cX1_restart 29 = .ok (.invokestatic 41, 3) := by decide +kernel
theorem dX1_restart_32 : decode cX1_restart 32 = .ok (.aload_n 0, 1) := by decide +kernel
theorem dX1_restart_33 : decode cX1_restart 33 = .ok (.getfield 31, 3) := by decide +kernel
theorem dX1_restart_36 : decode cX1_restart 36 = .ok (.iconst 0, 1) := by decide +kernel
theorem dX1_restart_37 : decode cX1_restart 37 = .ok (.invokestatic 41, 3) := by decide +kernel
theorem dX1_restart_40 : decode cX1_restart 40 = .ok (.aload_n 0, 1) := by decide +kernel
theorem dX1_restart_41 : decode cX1_restart 41 = .ok (.iconst 0, 1) := by decide +kernel
theorem dX1_restart_42 : decode cX1_restart 42 = .ok (.putfield 47, 3) := by decide +kernel
theorem dX1_restart_45 : decode cX1_restart 45 = .ok (.aload_n 0, 1) := by decide +kernel
theorem dX1_restart_46 : decode cX1_restart 46 = .ok (.iconst 0, 1) := by decide +kernel
theorem dX1_restart_47 : decode cX1_restart 47 = .ok (.putfield 51, 3) := by decide +kernel
theorem dX1_restart_50 : decode cX1_restart 50 = .ok (.return_, 1) := by decide +kernel
theorem dX1_copyFrom_0 : decode cX1_copyFrom 0 = .ok (.aload_n 0, 1) := by decide +kernel
theorem dX1_copyFrom_1 : decode cX1_copyFrom 1 = .ok (.getfield 12, 3) := by decide +kernel
theorem dX1_copyFrom_4 : decode cX1_copyFrom 4 = .ok (.aload_n 1, 1) := by decide +kernel
theorem dX1_copyFrom_5 : decode cX1_copyFrom 5 = .ok (.getfield 12, 3) := by decide +kernel
theorem dX1_copyFrom_8 : decode cX1_copyFrom 8 = .ok (.invokevirtual 37, 3) := by decide +kernel
theorem dX1_copyFrom_11 : decode cX1_copyFrom 11 = .ok (.aload_n 1, 1) := by decide +kernel
theorem dX1_copyFrom_12 : decode cX1_copyFrom 12 = .ok (.getfield 18, 3) := by decide +kernel
theorem dX1_copyFrom_15 : decode cX1_copyFrom 15 = .ok (.iconst 0, 1) := by decide +kernel
theorem dX1_copyFrom_16 : decode cX1_copyFrom 16 = .ok (.aload_n 0, 1) := by decide +kernel
theorem dX1_copyFrom_17 : decode cX1_copyFrom 17 = .ok (.getfield 18, 3) := by decide +kernel
theorem dX1_copyFrom_20 : decode cX1_copyFrom 20 = .ok (.iconst 0, 1) := by decide +kernel
theorem dX1_copyFrom_21 : decode cX1_copyFrom 21 = .ok (.bipush 36, 2) := by decide +kernel
theorem dX1_copyFrom_23 : decode cX1_copyFrom 23 = .ok (.invokestatic 54, 3) := by decide +kernel
theorem dX1_copyFrom_26 : decode cX1_copyFrom 26 = .ok (.aload_n 1, 1) := by decide +kernel
theorem dX1_copyFrom_27 : decode cX1_copyFrom 27 = .ok (.getfield 22, 3) := by decide +kernel
theorem dX1_copyFrom_30 : decode cX1_copyFrom 30 = .ok (.iconst 0, 1) := by decide +kernel
theorem dX1_copyFrom_31 : decode cX1_copyFrom 31 = .ok (.aload_n 0, 1) := by decide +kernel
theorem dX1_copyFrom_32 : decode cX1_copyFrom 32 = .ok (.getfield 22, 3) := by decide +kernel
theorem dX1_copyFrom_35 : decode cX1_copyFrom 35 = .ok (.iconst 0, 1) := by decide +kernel
theorem dX1_copyFrom_36 : decode cX1_copyFrom 36 = .ok (.sipush 216, 3) := by decide +kernel
theorem dX1_copyFrom_39 : decode cX1_copyFrom 39 = .ok (.invokestatic 54, 3) := by decide +kernel
theorem dX1_copyFrom_42 : decode cX1_copyFrom 42 = .ok (.aload_n 1, 1) := by decide +kernel
theorem dX1_copyFrom_43 : decode cX1_copyFrom 43 = .ok (.getfield 25, 3) := by decide +kernel
theorem dX1_copyFrom_46 : decode cX1_copyFrom 46 = .ok (.iconst 0, 1) := by decide +kernel
theorem dX1_copyFrom_47 : decode cX1_copyFrom 47 = .ok (.aload_n 0, 1) := by decide +kernel
theorem dX1_copyFrom_48 : decode cX1_copyFrom 48 = .ok (.getfield 25, 3) := by decide +kernel
theorem dX1_copyFrom_51 : decode cX1_copyFrom 51 = .ok (.iconst 0, 1) := by decide +kernel
theorem dX1_copyFrom_52 : decode cX1_copyFrom 52 = .ok (.sipush 216, 3) := by decide +kernel
theorem dX1_copyFrom_55 : decode cX1_copyFrom 55 = .ok (.invokestatic 54, 3) := by decide +kernel
theorem dX1_copyFrom_58 : decode cX1_copyFrom 58 = .ok (.aload_n 1, 1) := by decide +kernel
theorem dX1_copyFrom_59 : decode cX1_copyFrom 59 = .ok (.getfield 28, 3) := by decide +kernel
theorem dX1_copyFrom_62 : decode cX1_copyFrom 62 = .ok (.iconst 0, 1) := by decide +kernel
theorem dX1_copyFrom_63 : decode cX1_copyFrom 63 = .ok (.aload_n 0, 1) := by decide +kernel
theorem dX1_copyFrom_64 : decode cX1_copyFrom 64 = .ok (.getfield 28, 3) := by decide +kernel
theorem dX1_copyFrom_67 : decode cX1_copyFrom 67 = .ok (.iconst 0, 1) := by decide +kernel
theorem dX1_copyFrom_68 : decode cX1_copyFrom 68 = .ok (.bipush 6, 2) := by decide +kernel
theorem dX1_copyFrom_70 : decode cX1_copyFrom 70 = .ok (.invokestatic 54, 3) := by decide +kernel
theorem dX1_copyFrom_73 : decode cX1_copyFrom 73 = .ok (.aload_n 1, 1) := by decide +kernel
theorem dX1_copyFrom_74 : decode cX1_copyFrom 74 = .ok (.getfield 31, 3) := by decide +kernel
theorem dX1_copyFrom_77 : decode cX1_copyFrom 77 = .ok (.iconst 0, 1) := by decide +kernel
theorem dX1_copyFrom_78 : decode cX1_copyFrom 78 = .ok (.aload_n 0, 1) := by decide +kernel
theorem dX1_copyFrom_79 : decode cX1_copyFrom 79 = .ok (.getfield 31, 3) := by decide +kernel
theorem dX1_copyFrom_82 : decode cX1_copyFrom 82 = .ok (.iconst 0, 1) := by decide +kernel
theorem dX1_copyFrom_83 : decode cX1_copyFrom 83 = .ok (.bipush 6, 2) := by decide +kernel
theorem dX1_copyFrom_85 : decode cX1_copyFrom 85 = .ok (.invokestatic 54, 3) := by decide +kernel
theorem dX1_copyFrom_88 : decode cX1_copyFrom 88 = .ok (.aload_n 1, 1) := by decide +kernel
theorem dX1_copyFrom_89 : decode cX1_copyFrom 89 = .ok (.getfield 34, 3) := by decide +kernel
theorem dX1_copyFrom_92 : decode cX1_copyFrom 92 = .ok (.iconst 0, 1) := by decide +kernel
theorem dX1_copyFrom_93 : decode cX1_copyFrom 93 = .ok (.aload_n 0, 1) := by decide +kernel
theorem dX1_copyFrom_94 : decode cX1_copyFrom 94 = .ok (.getfield 34, 3) := by decide +kernel
theorem dX1_copyFrom_97 : decode cX1_copyFrom 97 = .ok (.iconst 0, 1) := by decide +kernel
theorem dX1_copyFrom_98 : decode cX1_copyFrom 98 = .ok (.aload_n 1, 1) := by decide +kernel
theorem dX1_copyFrom_99 : decode cX1_copyFrom 99 = .ok (.getfield 47, 3) := by decide +kernel
theorem dX1_copyFrom_102 : decode cX1_copyFrom 102 = .ok (.invokestatic 54, 3) := by decide +kernel
theorem dX1_copyFrom_105 : decode cX1_copyFrom 105 = .ok (.aload_n 0, 1) := by decide +kernel
theorem dX1_copyFrom_106 : decode cX1_copyFrom 106 = .ok (.aload_n 1, 1) := by decide +kernel
theorem dX1_copyFrom_107 : decode cX1_copyFrom 107 = .ok (.getfield 47, 3) := by decide +kernel
theorem dX1_copyFrom_110 : decode cX1_copyFrom 110 = .ok (.putfield 47, 3) := by decide +kernel
theorem dX1_copyFrom_113 : decode cX1_copyFrom 113 = .ok (.aload_n 0, 1) := by decide +kernel
theorem dX1_copyFrom_114 : decode cX1_copyFrom 114 = .ok (.aload_n 1, 1) := by decide +kernel
theorem dX1_copyFrom_115 : decode cX1_copyFrom 115 = .ok (.getfield 51, 3) := by decide +kernel
theorem dX1_copyFrom_118 : decode cX1_copyFrom 118 = .ok (.putfield 51, 3) := by decide +kernel
theorem dX1_copyFrom_121 : decode cX1_copyFrom 121 = .ok (.return_, 1) := by decide +kernel
theorem dX1_takeAway_0 : decode cX1_takeAway 0 = .ok (.aload_n 0, 1) := by decide +kernel
theorem dX1_takeAway_1 : decode cX1_takeAway 1 = .ok (.getfield 12, 3) := by decide +kernel
theorem dX1_takeAway_4 : decode cX1_takeAway 4 = .ok (.iload_n 1, 1) := by decide +kernel
theorem dX1_takeAway_5 : decode cX1_takeAway 5 = .ok (.iload_n 2, 1) := by decide +kernel
theorem dX1_takeAway_6 : decode cX1_takeAway 6 = .ok (.invokevirtual 60, 3) := by decide +kernel
theorem dX1_takeAway_9 : decode cX1_takeAway 9 = .ok (.aload_n 0, 1) := by decide +kernel
theorem dX1_takeAway_10 : decode cX1_takeAway 10 = .ok (.getfield 18, 3) := by decide +kernel
theorem dX1_takeAway_13 : decode cX1_takeAway 13 = .ok (.iload_n 1, 1) := by decide +kernel
theorem dX1_takeAway_14 : decode cX1_takeAway 14 = .ok (.iload_n 2, 1) := by decide +kernel
theorem dX1_takeAway_15 : decode cX1_takeAway 15 = .ok (.invokestatic 64, 3) := by decide +kernel
theorem dX1_takeAway_18 : decode cX1_takeAway 18 = .ok (.iconst 0, 1) := by decide +kernel
theorem dX1_takeAway_19 : decode cX1_takeAway 19 = .ok (.iastore, 1) := by decide +kernel
theorem dX1_takeAway_20 : decode cX1_takeAway 20 = .ok (.iconst 0, 1) := by decide +kernel
theorem dX1_takeAway_21 : decode cX1_takeAway 21 = .ok (.istore_n 3, 1) := by decide +kernel
theorem dX1_takeAway_22 : decode cX1_takeAway 22 = .ok (.iload_n 3, 1) := by decide +kernel
theorem dX1_takeAway_23 : decode cX1_takeAway 23 = .ok (.bipush 6, 2) := by decide +kernel
theorem dX1_takeAway_25 : decode cX1_takeAway 25 = .ok (.if_icmp .ge 33, 3) := by decide +kernel
theorem dX1_takeAway_28 : decode cX1_takeAway 28 = .ok (.aload_n 0, 1) := by decide +kernel
theorem dX1_takeAway_29 : decode cX1_takeAway 29 = .ok (.getfield 25, 3) := by decide +kernel
theorem dX1_takeAway_32 : decode cX1_takeAway 32 = .ok (.iload_n 1, 1) := by decide +kernel
theorem dX1_takeAway_33 : decode cX1_takeAway 33 = .ok (.iload_n 3, 1) := by decide +kernel
theorem dX1_takeAway_34 : decode cX1_takeAway 34 = .ok (.iload_n 2, 1) := by decide +kernel
theorem dX1_takeAway_35 : decode cX1_takeAway 35 = .ok (.invokestatic 68, 3) := by decide +kernel
theorem dX1_takeAway_38 : decode cX1_takeAway 38 = .ok (.iconst 0, 1) := by decide +kernel
theorem dX1_takeAway_39 : decode cX1_takeAway 39 = .ok (.iastore, 1) := by decide +kernel
theorem dX1_takeAway_40 : decode cX1_takeAway 40 = .ok (.aload_n 0, 1) := by decide +kernel
theorem dX1_takeAway_41 : decode cX1_takeAway 41 = .ok (.getfield 25, 3) := by decide +kernel
theorem dX1_takeAway_44 : decode cX1_takeAway 44 = .ok (.iload_n 2, 1) := by decide +kernel
theorem dX1_takeAway_45 : decode cX1_takeAway 45 = .ok (.iload_n 3, 1) := by decide +kernel
theorem dX1_takeAway_46 : decode cX1_takeAway 46 = .ok (.iload_n 1, 1) := by decide +kernel
theorem dX1_takeAway_47 : decode cX1_takeAway 47 = .ok (.invokestatic 68, 3) := by decide +kernel
theorem dX1_takeAway_50 : decode cX1_takeAway 50 = .ok (.iconst 0, 1) := by decide +kernel
theorem dX1_takeAway_51 : decode cX1_takeAway 51 = .ok (.iastore, 1) := by decide +kernel
theorem dX1_takeAway_52 : decode cX1_takeAway 52 = .ok (.iinc 3 1, 3) := by decide +kernel
theorem dX1_takeAway_55 : decode cX1_takeAway 55 = .ok (.goto (-33), 3) := by decide +kernel
theorem dX1_takeAway_58 : decode cX1_takeAway 58 = .ok (.return_, 1) := by decide +kernel
theorem dX1_addToWay_0 : decode cX1_addToWay 0 = .ok (.aload_n 0, 1) := by decide +kernel
theorem dX1_addToWay_1 : decode cX1_addToWay 1 = .ok (.getfield 47, 3) := by decide +kernel
theorem dX1_addToWay_4 : decode cX1_addToWay 4 = .ok (.bipush 100, 2) := by decide +kernel
theorem dX1_addToWay_6 : decode cX1_addToWay 6 = .ok (.if_icmp .gt 23, 3) := by decide +kernel
theorem dX1_addToWay_9 : decode cX1_addToWay 9 = .ok (.aload_n 0, 1) := by decide +kernel
theorem dX1_addToWay_10 : decode cX1_addToWay 10 = .ok (.getfield 34, 3) := by decide +kernel
theorem dX1_addToWay_13 : decode cX1_addToWay 13 = .ok (.aload_n 0, 1) := by decide +kernel
theorem dX1_addToWay_14 : decode cX1_addToWay 14 = .ok (.getfield 47, 3) := by decide +kernel
theorem dX1_addToWay_17 : decode cX1_addToWay 17 = .ok (.iload_n 1, 1) := by decide +kernel
theorem dX1_addToWay_18 : decode cX1_addToWay 18 = .ok (.iastore, 1) := by decide +kernel
theorem dX1_addToWay_19 : decode cX1_addToWay 19 = .ok (.aload_n 0, 1) := by decide +kernel
theorem dX1_addToWay_20 : decode cX1_addToWay 20 = .ok (.dup, 1) := by decide +kernel
theorem dX1_addToWay_21 : decode cX1_addToWay 21 = .ok (.getfield 47, 3) := by decide +kernel
theorem dX1_addToWay_24 : decode cX1_addToWay 24 = .ok (.iconst 1, 1) := by decide +kernel
theorem dX1_addToWay_25 : decode cX1_addToWay 25 = .ok (.iadd, 1) := by decide +kernel
theorem dX1_addToWay_26 : decode cX1_addToWay 26 = .ok (.putfield 47, 3) := by decide +kernel
theorem dX1_addToWay_29 : decode cX1_addToWay 29 = .ok (.return_, 1) := by decide +kernel
theorem dX1_countHop_0 : decode cX1_countHop 0 = .ok (.aload_n 0, 1) := by decide +kernel
theorem dX1_countHop_1 : decode cX1_countHop 1 = .ok (.getfield 18, 3) := by decide +kernel
theorem dX1_countHop_4 : decode cX1_countHop 4 = .ok (.iload_n 1, 1) := by decide +kernel
theorem dX1_countHop_5 : decode cX1_countHop 5 = .ok (.iload_n 2, 1) := by decide +kernel
theorem dX1_countHop_6 : decode cX1_countHop 6 = .ok (.invokestatic 72, 3) := by decide +kernel
theorem dX1_countHop_9 : decode cX1_countHop 9 = .ok (.iload_n 1, 1) := by decide +kernel
theorem dX1_countHop_10 : decode cX1_countHop 10 = .ok (.iload_n 2, 1) := by decide +kernel
theorem dX1_countHop_11 : decode cX1_countHop 11 = .ok (.invokestatic 77, 3) := by decide +kernel
theorem dX1_countHop_14 : decode cX1_countHop 14 = .ok (.invokestatic 64, 3) := by decide +kernel
theorem dX1_countHop_17 : decode cX1_countHop 17 = .ok (.dup2, 1) := by decide +kernel
theorem dX1_countHop_18 : decode cX1_countHop 18 = .ok (.iaload, 1) := by decide +kernel
theorem dX1_countHop_19 : decode cX1_countHop 19 = .ok (.iconst 1, 1) := by decide +kernel
theorem dX1_countHop_20 : decode cX1_countHop 20 = .ok (.iadd, 1) := by decide +kernel
theorem dX1_countHop_21 : decode cX1_countHop 21 = .ok (.iastore, 1) := by decide +kernel
theorem dX1_countHop_22 : decode cX1_countHop 22 = .ok (.aload_n 0, 1) := by decide +kernel
theorem dX1_countHop_23 : decode cX1_countHop 23 = .ok (.iload_n 2, 1) := by decide +kernel
theorem dX1_countHop_24 : decode cX1_countHop 24 = .ok (.invokevirtual 80, 3) := by decide +kernel
theorem dX1_countHop_27 : decode cX1_countHop 27 = .ok (.return_, 1) := by decide +kernel
theorem dX2_init_0 : decode cX2_init 0 = .ok (.aload_n 0, 1) := by decide +kernel
theorem dX2_init_1 : decode cX2_init 1 = .ok (.invokespecial 3, 3) := by decide +kernel
theorem dX2_init_4 : decode cX2_init 4 = .ok (.aload_n 0, 1) := by decide +kernel
theorem dX2_init_5 : decode cX2_init 5 = .ok (.bipush 36, 2) := by decide +kernel
theorem dX2_init_7 : decode cX2_init 7 = .ok (.newarray .int, 2) := by decide +kernel
theorem dX2_init_9 : decode cX2_init 9 = .ok (.putfield 9, 3) := by decide +kernel
theorem dX2_init_12 : decode cX2_init 12 = .ok (.return_, 1) := by decide +kernel
theorem dX2_measure_0 : decode cX2_measure 0 = .ok (.aload_n 0, 1) := by decide +kernel
theorem dX2_measure_1 : decode cX2_measure 1 = .ok (.iload_n 2, 1) := by decide +kernel
theorem dX2_measure_2 : decode cX2_measure 2 = .ok (.putfield 15, 3) := by decide +kernel
theorem dX2_measure_5 : decode cX2_measure 5 = .ok (.iconst 0, 1) := by decide +kernel
theorem dX2_measure_6 : decode cX2_measure 6 = .ok (.istore 4, 2) := by decide +kernel
theorem dX2_measure_8 : decode cX2_measure 8 = .ok (.iload 4, 2) := by decide +kernel
theorem dX2_measure_10 : decode cX2_measure 10 = .ok (.aload_n 0, 1) := by decide +kernel
theorem dX2_measure_11 : decode cX2_measure 11 = .ok (.getfield 15, 3) := by decide +kernel
theorem dX2_measure_14 : decode cX2_measure 14 = .ok (.if_icmp .ge 49, 3) := by decide +kernel
theorem dX2_measure_17 : decode cX2_measure 17 = .ok (.iconst 0, 1) := by decide +kernel
theorem dX2_measure_18 : decode cX2_measure 18 = .ok (.istore 5, 2) := by decide +kernel
theorem dX2_measure_20 : decode cX2_measure 20 = .ok (.iload 5, 2) := by decide +kernel
theorem dX2_measure_22 : decode cX2_measure 22 = .ok (.aload_n 0, 1) := by decide +kernel
theorem dX2_measure_23 : decode cX2_measure 23 = .ok (.getfield 15, 3) := by decide +kernel
theorem dX2_measure_26 : decode cX2_measure 26 = .ok (.if_icmp .ge 31, 3) := by decide +kernel
theorem dX2_measure_29 : decode cX2_measure 29 = .ok (.aload_n 0, 1) := by decide +kernel
theorem dX2_measure_30 : decode cX2_measure 30 = .ok (.getfield 9, 3) := by decide +kernel
theorem dX2_measure_33 : decode cX2_measure 33 = .ok (.iload 4, 2) := by decide +kernel
theorem dX2_measure_35 : decode cX2_measure 35 = .ok (.iload 5, 2) := by decide +kernel
theorem dX2_measure_37 : decode cX2_measure 37 = .ok (.invokestatic 19, 3) := by decide +kernel
theorem dX2_measure_40 : decode cX2_measure 40 = .ok (.aload_n 0, 1) := by decide +kernel
theorem dX2_measure_41 : decode cX2_measure 41 = .ok (.aload_n 1, 1) := by decide +kernel
theorem dX2_measure_42 : decode cX2_measure 42 = .ok (.iload 4, 2) := by decide +kernel
theorem dX2_measure_44 : decode cX2_measure 44 = .ok (.iload 5, 2) := by decide +kernel
theorem dX2_measure_46 : decode cX2_measure 46 = .ok (.iload_n 3, 1) := by decide +kernel
theorem dX2_measure_47 : decode cX2_measure 47 = .ok (.invokevirtual 23, 3) := by decide +kernel
theorem dX2_measure_50 : decode cX2_measure 50 = .ok (.iastore, 1) := by decide +kernel
theorem dX2_measure_51 : decode cX2_measure 51 = .ok (.iinc 5 1, 3) := by decide +kernel
theorem dX2_measure_54 : decode cX2_measure 54 = .ok (.goto (-34), 3) := by decide +kernel
theorem dX2_measure_57 : decode cX2_measure 57 = .ok (.iinc 4 1, 3) := by decide +kernel
theorem dX2_measure_60 : decode cX2_measure 60 = .ok (.goto (-52), 3) := by decide +kernel
theorem dX2_measure_63 : decode cX2_measure 63 = .ok (.iconst 0, 1) := by decide +kernel
theorem dX2_measure_64 : decode cX2_measure 64 = .ok (.istore 4, 2) := by decide +kernel
theorem dX2_measure_66 : decode cX2_measure 66 = .ok (.iload 4, 2) := by decide +kernel
theorem dX2_measure_68 : decode cX2_measure 68 = .ok (.aload_n 0, 1) := by decide +kernel
theorem dX2_measure_69 : decode cX2_measure 69 = .ok (.getfield 15, 3) := by decide +kernel
theorem dX2_measure_72 : decode cX2_measure 72 = .ok (.if_icmp .ge 101, 3) := by decide +kernel
theorem dX2_measure_75 : decode cX2_measure 75 = .ok (.iconst 0, 1) := by decide +kernel
theorem dX2_measure_76 : decode cX2_measure 76 = .ok (.istore 5, 2) := by decide +kernel
theorem dX2_measure_78 : decode cX2_measure 78 = .ok (.iload 5, 2) := by decide +kernel
theorem dX2_measure_80 : decode cX2_measure 80 = .ok (.aload_n 0, 1) := by decide +kernel
theorem dX2_measure_81 : decode cX2_measure 81 = .ok (.getfield 15, 3) := by decide +kernel
theorem dX2_measure_84 : decode cX2_measure 84 = .ok (.if_icmp .ge 83, 3) := by decide +kernel
theorem dX2_measure_87 : decode cX2_measure 87 = .ok (.iconst 0, 1) := by decide +kernel
theorem dX2_measure_88 : decode cX2_measure 88 = .ok (.istore 6, 2) := by decide +kernel
theorem dX2_measure_90 : decode cX2_measure 90 = .ok (.iload 6, 2) := by decide +kernel
theorem dX2_measure_92 : decode cX2_measure 92 = .ok (.aload_n 0, 1) := by decide +kernel
theorem dX2_measure_93 : decode cX2_measure 93 = .ok (.getfield 15, 3) := by decide +kernel
theorem dX2_measure_96 : decode cX2_measure 96 = .ok (.if_icmp .ge 65, 3) := by decide +kernel
theorem dX2_measure_99 : decode cX2_measure 99 = .ok (.aload_n 0, 1) := by decide +kernel
theorem dX2_measure_100 : decode cX2_measure 100 = .ok (.getfield 9, 3) := by decide +kernel
theorem dX2_measure_103 : decode cX2_measure 103 = .ok (.iload 5, 2) := by decide +kernel
theorem dX2_measure_105 : decode cX2_measure 105 = .ok (.iload 4, 2) := by decide +kernel
theorem dX2_measure_107 : decode cX2_measure 107 = .ok (.invokestatic 19, 3) := by decide +kernel
theorem dX2_measure_110 : decode cX2_measure 110 = .ok (.iaload, 1) := by decide +kernel
theorem dX2_measure_111 : decode cX2_measure 111 = .ok (.aload_n 0, 1) := by decide +kernel
theorem dX2_measure_112 : decode cX2_measure 112 = .ok (.getfield 9, 3) := by decide +kernel
theorem dX2_measure_115 : decode cX2_measure 115 = .ok (.iload 4, 2) := by decide +kernel
theorem dX2_measure_117 : decode cX2_measure 117 = .ok (.iload 6, 2) := by decide +kernel
theorem dX2_measure_119 : decode cX2_measure 119 = .ok (.invokestatic 19, 3) := by decide +kernel
theorem dX2_measure_122 : decode cX2_measure 122 = .ok (.iaload, 1) := by decide +kernel
theorem dX2_measure_123 : decode cX2_measure 123 = .ok (.iadd, 1) := by decide +kernel
theorem dX2_measure_124 : decode cX2_measure 124 = .ok (.istore 7, 2) := by decide +kernel
theorem dX2_measure_126 : decode cX2_measure 126 = .ok (.aload_n 0, 1) := by decide +kernel
theorem dX2_measure_127 : decode cX2_measure 127 = .ok (.getfield 9, 3) := by decide +kernel
theorem dX2_measure_130 : decode cX2_measure 130 = .ok (.iload 5, 2) := by decide +kernel
theorem dX2_measure_132 : decode cX2_measure 132 = .ok (.iload 6, 2) := by decide +kernel
theorem dX2_measure_134 : decode cX2_measure 134 = .ok (.invokestatic 19, 3) := by decide +kernel
theorem dX2_measure_137 : decode cX2_measure 137 = .ok (.aload_n 0, 1) := by decide +kernel
theorem dX2_measure_138 : decode cX2_measure 138 = .ok (.getfield 9, 3) := by decide +kernel
theorem dX2_measure_141 : decode cX2_measure 141 = .ok (.iload 5, 2) := by decide +kernel
theorem dX2_measure_143 : decode cX2_measure 143 = .ok (.iload 6, 2) := by decide +kernel
theorem dX2_measure_145 : decode cX2_measure 145 = .ok (.invokestatic 19, 3) := by decide +kernel
theorem dX2_measure_148 : decode cX2_measure 148 = .ok (.iaload, 1) := by decide +kernel
theorem dX2_measure_149 : decode cX2_measure 149 = .ok (.iload 7, 2) := by decide +kernel
theorem dX2_measure_151 : decode cX2_measure 151 = .ok (.invokestatic 27, 3) := by decide +kernel
theorem dX2_measure_154 : decode cX2_measure 154 = .ok (.iastore, 1) := by decide +kernel
theorem dX2_measure_155 : decode cX2_measure 155 = .ok (.iinc 6 1, 3) := by decide +kernel
theorem dX2_measure_158 : decode cX2_measure 158 = .ok (.goto (-68), 3) := by decide +kernel
theorem dX2_measure_161 : decode cX2_measure 161 = .ok (.iinc 5 1, 3) := by decide +kernel
theorem dX2_measure_164 : decode cX2_measure 164 = .ok (.goto (-86), 3) := by decide +kernel
theorem dX2_measure_167 : decode cX2_measure 167 = .ok (.iinc 4 1, 3) := by decide +kernel
theorem dX2_measure_170 : decode cX2_measure 170 = .ok (.goto (-104), 3) := by decide +kernel
theorem dX2_measure_173 : decode cX2_measure 173 = .ok (.return_, 1) := by decide +kernel
theorem dX2_stepFrom_0 : decode cX2_stepFrom 0 = .ok (.iload_n 2, 1) := by decide +kernel
theorem dX2_stepFrom_1 : decode cX2_stepFrom 1 = .ok (.iload_n 3, 1) := by decide +kernel
theorem dX2_stepFrom_2 : decode cX2_stepFrom 2 = .ok (.if_icmp .ne 5, 3) := by decide +kernel
theorem dX2_stepFrom_5 : decode cX2_stepFrom 5 = .ok (.iconst 0, 1) := by decide +kernel
theorem dX2_stepFrom_6 : decode cX2_stepFrom 6 = .ok (.ireturn, 1) := by decide +kernel
theorem dX2_stepFrom_7 : decode cX2_stepFrom 7 = .ok (.aload_n 1, 1) := by decide +kernel
theorem dX2_stepFrom_8 : decode cX2_stepFrom 8 = .ok (.iload_n 2, 1) := by decide +kernel
theorem dX2_stepFrom_9 : decode cX2_stepFrom 9 = .ok (.iload_n 3, 1) := by decide +kernel
theorem dX2_stepFrom_10 : decode cX2_stepFrom 10 = .ok (.invokevirtual 32, 3) := by decide +kernel
theorem dX2_stepFrom_13 : decode cX2_stepFrom 13 = .ok (.istore 5, 2) := by decide +kernel
theorem dX2_stepFrom_15 : decode cX2_stepFrom 15 = .ok (.iload 5, 2) := by decide +kernel
theorem dX2_stepFrom_17 : decode cX2_stepFrom 17 = .ok (.ifCond .eq 21, 3) := by decide +kernel
theorem dX2_stepFrom_20 : decode cX2_stepFrom 20 = .ok (.iload_n 2, 1) := by decide +kernel
theorem dX2_stepFrom_21 : decode cX2_stepFrom 21 = .ok (.iload_n 3, 1) := by decide +kernel
theorem dX2_stepFrom_22 : decode cX2_stepFrom 22 = .ok (.invokestatic 27, 3) := by decide +kernel
theorem dX2_stepFrom_25 : decode cX2_stepFrom 25 = .ok (.iload_n 2, 1) := by decide +kernel
theorem dX2_stepFrom_26 : decode cX2_stepFrom 26 = .ok (.iload_n 3, 1) := by decide +kernel
theorem dX2_stepFrom_27 : decode cX2_stepFrom 27 = .ok (.invokestatic 37, 3) := by decide +kernel
theorem dX2_stepFrom_30 : decode cX2_stepFrom 30 = .ok (.invokestatic 19, 3) := by decide +kernel
theorem dX2_stepFrom_33 : decode cX2_stepFrom 33 = .ok (.iload 4, 2) := by decide +kernel
theorem dX2_stepFrom_35 : decode cX2_stepFrom 35 = .ok (.if_icmp .ne 6, 3) := by decide +kernel
theorem dX2_stepFrom_38 : decode cX2_stepFrom 38 = .ok (.ldc 40, 2) := by decide +kernel
theorem dX2_stepFrom_40 : decode cX2_stepFrom 40 = .ok (.ireturn, 1) := by decide +kernel
theorem dX2_stepFrom_41 : decode cX2_stepFrom 41 = .ok (.iload 5, 2) := by decide +kernel
theorem dX2_stepFrom_43 : decode cX2_stepFrom 43 = .ok (.ireturn, 1) := by decide +kernel
theorem dX2_between_0 : decode cX2_between 0 = .ok (.aload_n 0, 1) := by decide +kernel
theorem dX2_between_1 : decode cX2_between 1 = .ok (.getfield 9, 3) := by decide +kernel
theorem dX2_between_4 : decode cX2_between 4 = .ok (.iload_n 1, 1) := by decide +kernel
theorem dX2_between_5 : decode cX2_between 5 = .ok (.iload_n 2, 1) := by decide +kernel
theorem dX2_between_6 : decode cX2_between 6 = .ok (.invokestatic 19, 3) := by decide +kernel
theorem dX2_between_9 : decode cX2_between 9 = .ok (.iaload, 1) := by decide +kernel
theorem dX2_between_10 : decode cX2_between 10 = .ok (.istore_n 3, 1) := by decide +kernel
theorem dX2_between_11 : decode cX2_between 11 = .ok (.iload_n 3, 1) := by decide +kernel
theorem dX2_between_12 : decode cX2_between 12 = .ok (.ldc 40, 2) := by decide +kernel
theorem dX2_between_14 : decode cX2_between 14 = .ok (.if_icmp .lt 8, 3) := by decide +kernel
theorem dX2_between_17 : decode cX2_between 17 = .ok (.bipush (-9), 2) := by decide +kernel
theorem dX2_between_19 : decode cX2_between 19 = .ok (.goto 4, 3) := by decide +kernel
theorem dX2_between_22 : decode cX2_between 22 = .ok (.iload_n 3, 1) := by decide +kernel
theorem dX2_between_23 : decode cX2_between 23 = .ok (.ireturn, 1) := by decide +kernel
theorem dX2_sumOfAll_0 : decode cX2_sumOfAll 0 = .ok (.iconst 0, 1) := by decide +kernel
theorem dX2_sumOfAll_1 : decode cX2_sumOfAll 1 = .ok (.istore_n 1, 1) := by decide +kernel
theorem dX2_sumOfAll_2 : decode cX2_sumOfAll 2 = .ok (.iconst 0, 1) := by decide +kernel
theorem dX2_sumOfAll_3 : decode cX2_sumOfAll 3 = .ok (.istore_n 2, 1) := by decide +kernel
theorem dX2_sumOfAll_4 : decode cX2_sumOfAll 4 = .ok (.iload_n 2, 1) := by decide +kernel
theorem dX2_sumOfAll_5 : decode cX2_sumOfAll 5 = .ok (.aload_n 0, 1) := by decide +kernel
theorem dX2_sumOfAll_6 : decode cX2_sumOfAll 6 = .ok (.getfield 15, 3) := by decide +kernel
theorem dX2_sumOfAll_9 : decode cX2_sumOfAll 9 = .ok (.if_icmp .ge 50, 3) := by decide +kernel
theorem dX2_sumOfAll_12 : decode cX2_sumOfAll 12 = .ok (.iconst 0, 1) := by decide +kernel
theorem dX2_sumOfAll_13 : decode cX2_sumOfAll 13 = .ok (.istore_n 3, 1) := by decide +kernel
theorem dX2_sumOfAll_14 : decode cX2_sumOfAll 14 = .ok (.iload_n 3, 1) := by decide +kernel
theorem dX2_sumOfAll_15 : decode cX2_sumOfAll 15 = .ok (.aload_n 0, 1) := by decide +kernel
theorem dX2_sumOfAll_16 : decode cX2_sumOfAll 16 = .ok (.getfield 15, 3) := by decide +kernel
theorem dX2_sumOfAll_19 : decode cX2_sumOfAll 19 = .ok (.if_icmp .ge 34, 3) := by decide +kernel
theorem dX2_sumOfAll_22 : decode cX2_sumOfAll 22 = .ok (.aload_n 0, 1) := by decide +kernel
theorem dX2_sumOfAll_23 : decode cX2_sumOfAll 23 = .ok (.iload_n 2, 1) := by decide +kernel
theorem dX2_sumOfAll_24 : decode cX2_sumOfAll 24 = .ok (.iload_n 3, 1) := by decide +kernel
theorem dX2_sumOfAll_25 : decode cX2_sumOfAll 25 = .ok (.invokevirtual 41, 3) := by decide +kernel
theorem dX2_sumOfAll_28 : decode cX2_sumOfAll 28 = .ok (.istore 4, 2) := by decide +kernel
theorem dX2_sumOfAll_30 : decode cX2_sumOfAll 30 = .ok (.iload_n 1, 1) := by decide +kernel
theorem dX2_sumOfAll_31 : decode cX2_sumOfAll 31 = .ok (.iload 4, 2) := by decide +kernel
theorem dX2_sumOfAll_33 : decode cX2_sumOfAll 33 = .ok (.bipush (-9), 2) := by decide +kernel
theorem dX2_sumOfAll_35 : decode cX2_sumOfAll 35 = .ok (.if_icmp .ne 8, 3) := by decide +kernel
theorem dX2_sumOfAll_38 : decode cX2_sumOfAll 38 = .ok (.bipush 100, 2) := by decide +kernel
theorem dX2_sumOfAll_40 : decode cX2_sumOfAll 40 = .ok (.goto 5, 3) := by decide +kernel
theorem dX2_sumOfAll_43 : decode cX2_sumOfAll 43 = .ok (.iload 4, 2) := by decide +kernel
theorem dX2_sumOfAll_45 : decode cX2_sumOfAll 45 = .ok (.iadd, 1) := by decide +kernel
theorem dX2_sumOfAll_46 : decode cX2_sumOfAll 46 = .ok (.istore_n 1, 1) := by decide +kernel
theorem dX2_sumOfAll_47 : decode cX2_sumOfAll 47 = .ok (.iinc 3 1, 3) := by decide +kernel
theorem dX2_sumOfAll_50 : decode cX2_sumOfAll 50 = .ok (.goto (-36), 3) := by decide +kernel
theorem dX2_sumOfAll_53 : decode cX2_sumOfAll 53 = .ok (.iinc 2 1, 3) := by decide +kernel
theorem dX2_sumOfAll_56 : decode cX2_sumOfAll 56 = .ok (.goto (-52), 3) := by decide +kernel
theorem dX2_sumOfAll_59 : decode cX2_sumOfAll 59 = .ok (.iload_n 1, 1) := by decide +kernel
theorem dX2_sumOfAll_60 : decode cX2_sumOfAll 60 = .ok (.ireturn, 1) := by decide +kernel
theorem dX3_init_0 : decode cX3_init 0 = .ok (.aload_n 0, 1) := by decide +kernel
theorem dX3_init_1 : decode cX3_init 1 = .ok (.invokespecial 3, 3) := by decide +kernel
theorem dX3_init_4 : decode cX3_init 4 = .ok (.aload_n 0, 1) := by decide +kernel
theorem dX3_init_5 : decode cX3_init 5 = .ok (.bipush 36, 2) := by decide +kernel
theorem dX3_init_7 : decode cX3_init 7 = .ok (.newarray .int, 2) := by decide +kernel
theorem dX3_init_9 : decode cX3_init 9 = .ok (.putfield 9, 3) := by decide +kernel
theorem dX3_init_12 : decode cX3_init 12 = .ok (.return_, 1) := by decide +kernel
theorem dX3_restart_0 : decode cX3_restart 0 = .ok (.aload_n 0, 1) := by decide +kernel
theorem dX3_restart_1 : decode cX3_restart 1 = .ok (.getfield 9, 3) := by decide +kernel
theorem dX3_restart_4 : decode cX3_restart 4 = .ok (.iconst 0, 1) := by decide +kernel
theorem dX3_restart_5 : decode cX3_restart 5 = .ok (.invokestatic 15, 3) := by decide +kernel
theorem dX3_restart_8 : decode cX3_restart 8 = .ok (.aload_n 0, 1) := by decide +kernel
theorem dX3_restart_9 : decode cX3_restart 9 = .ok (.iconst 0, 1) := by decide +kernel
theorem dX3_restart_10 : decode cX3_restart 10 = .ok (.putfield 21, 3) := by decide +kernel
theorem dX3_restart_13 : decode cX3_restart 13 = .ok (.return_, 1) := by decide +kernel
theorem dX3_copyFrom_0 : decode cX3_copyFrom 0 = .ok (.aload_n 1, 1) := by decide +kernel
theorem dX3_copyFrom_1 : decode cX3_copyFrom 1 = .ok (.getfield 9, 3) := by decide +kernel
theorem dX3_copyFrom_4 : decode cX3_copyFrom 4 = .ok (.iconst 0, 1) := by decide +kernel
theorem dX3_copyFrom_5 : decode cX3_copyFrom 5 = .ok (.aload_n 0, 1) := by decide +kernel
theorem dX3_copyFrom_6 : decode cX3_copyFrom 6 = .ok (.getfield 9, 3) := by decide +kernel
theorem dX3_copyFrom_9 : decode cX3_copyFrom 9 = .ok (.iconst 0, 1) := by decide +kernel
theorem dX3_copyFrom_10 : decode cX3_copyFrom 10 = .ok (.bipush 36, 2) := by decide +kernel
theorem dX3_copyFrom_12 : decode cX3_copyFrom 12 = .ok (.invokestatic 25, 3) := by decide +kernel
theorem dX3_copyFrom_15 : decode cX3_copyFrom 15 = .ok (.aload_n 0, 1) := by decide +kernel
theorem dX3_copyFrom_16 : decode cX3_copyFrom 16 = .ok (.aload_n 1, 1) := by decide +kernel
theorem dX3_copyFrom_17 : decode cX3_copyFrom 17 = .ok (.getfield 21, 3) := by decide +kernel
theorem dX3_copyFrom_20 : decode cX3_copyFrom 20 = .ok (.putfield 21, 3) := by decide +kernel
theorem dX3_copyFrom_23 : decode cX3_copyFrom 23 = .ok (.return_, 1) := by decide +kernel
theorem dX3_delayOf_0 : decode cX3_delayOf 0 = .ok (.aload_n 0, 1) := by decide +kernel
theorem dX3_delayOf_1 : decode cX3_delayOf 1 = .ok (.getfield 9, 3) := by decide +kernel
theorem dX3_delayOf_4 : decode cX3_delayOf 4 = .ok (.iload_n 1, 1) := by decide +kernel
theorem dX3_delayOf_5 : decode cX3_delayOf 5 = .ok (.iload_n 2, 1) := by decide +kernel
theorem dX3_delayOf_6 : decode cX3_delayOf 6 = .ok (.invokestatic 31, 3) := by decide +kernel
theorem dX3_delayOf_9 : decode cX3_delayOf 9 = .ok (.iaload, 1) := by decide +kernel
theorem dX3_delayOf_10 : decode cX3_delayOf 10 = .ok (.ireturn, 1) := by decide +kernel
theorem dX3_put_0 : decode cX3_put 0 = .ok (.aload_n 0, 1) := by decide +kernel
theorem dX3_put_1 : decode cX3_put 1 = .ok (.iload_n 1, 1) := by decide +kernel
theorem dX3_put_2 : decode cX3_put 2 = .ok (.iload_n 2, 1) := by decide +kernel
theorem dX3_put_3 : decode cX3_put 3 = .ok (.invokevirtual 35, 3) := by decide +kernel
theorem dX3_put_6 : decode cX3_put 6 = .ok (.ifCond .ne 13, 3) := by decide +kernel
theorem dX3_put_9 : decode cX3_put 9 = .ok (.aload_n 0, 1) := by decide +kernel
theorem dX3_put_10 : decode cX3_put 10 = .ok (.dup, 1) := by decide +kernel
theorem dX3_put_11 : decode cX3_put 11 = .ok (.getfield 21, 3) := by decide +kernel
theorem dX3_put_14 : decode cX3_put 14 = .ok (.iconst 1, 1) := by decide +kernel
theorem dX3_put_15 : decode cX3_put 15 = .ok (.iadd, 1) := by decide +kernel
theorem dX3_put_16 : decode cX3_put 16 = .ok (.putfield 21, 3) := by decide +kernel
theorem dX3_put_19 : decode cX3_put 19 = .ok (.aload_n 0, 1) := by decide +kernel
theorem dX3_put_20 : decode cX3_put 20 = .ok (.getfield 9, 3) := by decide +kernel
theorem dX3_put_23 : decode cX3_put 23 = .ok (.iload_n 1, 1) := by decide +kernel
theorem dX3_put_24 : decode cX3_put 24 = .ok (.iload_n 2, 1) := by decide +kernel
theorem dX3_put_25 : decode cX3_put 25 = .ok (.invokestatic 31, 3) := by decide +kernel
theorem dX3_put_28 : decode cX3_put 28 = .ok (.iload_n 3, 1) := by decide +kernel
theorem dX3_put_29 : decode cX3_put 29 = .ok (.iastore, 1) := by decide +kernel
theorem dX3_put_30 : decode cX3_put 30 = .ok (.aload_n 0, 1) := by decide +kernel
theorem dX3_put_31 : decode cX3_put 31 = .ok (.getfield 9, 3) := by decide +kernel
theorem dX3_put_34 : decode cX3_put 34 = .ok (.iload_n 2, 1) := by decide +kernel
theorem dX3_put_35 : decode cX3_put 35 = .ok (.iload_n 1, 1) := by decide +kernel
theorem dX3_put_36 : decode cX3_put 36 = .ok (.invokestatic 31, 3) := by decide +kernel
theorem dX3_put_39 : decode cX3_put 39 = .ok (.iload_n 3, 1) := by decide +kernel
theorem dX3_put_40 : decode cX3_put 40 = .ok (.iastore, 1) := by decide +kernel
theorem dX3_put_41 : decode cX3_put 41 = .ok (.return_, 1) := by decide +kernel
theorem dX3_takeAway_0 : decode cX3_takeAway 0 = .ok (.aload_n 0, 1) := by decide +kernel
theorem dX3_takeAway_1 : decode cX3_takeAway 1 = .ok (.iload_n 1, 1) := by decide +kernel
theorem dX3_takeAway_2 : decode cX3_takeAway 2 = .ok (.iload_n 2, 1) := by decide +kernel
theorem dX3_takeAway_3 : decode cX3_takeAway 3 = .ok (.invokevirtual 35, 3) := by decide +kernel
theorem dX3_takeAway_6 : decode cX3_takeAway 6 = .ok (.ifCond .le 13, 3) := by decide +kernel
theorem dX3_takeAway_9 : decode cX3_takeAway 9 = .ok (.aload_n 0, 1) := by decide +kernel
theorem dX3_takeAway_10 : decode cX3_takeAway 10 = .ok (.dup, 1) := by decide +kernel
theorem dX3_takeAway_11 : decode cX3_takeAway 11 = .ok (.getfield 21, 3) := by decide +kernel
theorem dX3_takeAway_14 : decode cX3_takeAway 14 = .ok (.iconst 1, 1) := by decide +kernel
theorem dX3_takeAway_15 : decode cX3_takeAway 15 = .ok (.isub, 1) := by decide +kernel
theorem dX3_takeAway_16 : decode cX3_takeAway 16 = .ok (.putfield 21, 3) := by decide +kernel
theorem dX3_takeAway_19 : decode cX3_takeAway 19 = .ok (.aload_n 0, 1) := by decide +kernel
theorem dX3_takeAway_20 : decode cX3_takeAway 20 = .ok (.getfield 9, 3) := by decide +kernel
theorem dX3_takeAway_23 : decode cX3_takeAway 23 = .ok (.iload_n 1, 1) := by decide +kernel
theorem dX3_takeAway_24 : decode cX3_takeAway 24 = .ok (.iload_n 2, 1) := by decide +kernel
theorem dX3_takeAway_25 : decode cX3_takeAway 25 = .ok (.invokestatic 31, 3) := by decide +kernel
theorem dX3_takeAway_28 : decode cX3_takeAway 28 = .ok (.iconst 0, 1) := by decide +kernel
theorem dX3_takeAway_29 : decode cX3_takeAway 29 = .ok (.iastore, 1) := by decide +kernel
theorem dX3_takeAway_30 : decode cX3_takeAway 30 = .ok (.aload_n 0, 1) := by decide +kernel
theorem dX3_takeAway_31 : decode cX3_takeAway 31 = .ok (.getfield 9, 3) := by decide +kernel
theorem dX3_takeAway_34 : decode cX3_takeAway 34 = .ok (.iload_n 2, 1) := by decide +kernel
theorem dX3_takeAway_35 : decode cX3_takeAway 35 = .ok (.iload_n 1, 1) := by decide +kernel
theorem dX3_takeAway_36 : decode cX3_takeAway 36 = .ok (.invokestatic 31, 3) := by decide +kernel
theorem dX3_takeAway_39 : decode cX3_takeAway 39 = .ok (.iconst 0, 1) := by decide +kernel
theorem dX3_takeAway_40 : decode cX3_takeAway 40 = .ok (.iastore, 1) := by decide +kernel
theorem dX3_takeAway_41 : decode cX3_takeAway 41 = .ok (.return_, 1) := by decide +kernel
theorem dX3_pairOf_0 : decode cX3_pairOf 0 = .ok (.iload_n 1, 1) := by decide +kernel
theorem dX3_pairOf_1 : decode cX3_pairOf 1 = .ok (.ifCond .lt 11, 3) := by decide +kernel
theorem dX3_pairOf_4 : decode cX3_pairOf 4 = .ok (.iload_n 1, 1) := by decide +kernel
theorem dX3_pairOf_5 : decode cX3_pairOf 5 = .ok (.aload_n 0, 1) := by decide +kernel
theorem dX3_pairOf_6 : decode cX3_pairOf 6 = .ok (.getfield 21, 3) := by decide +kernel
theorem dX3_pairOf_9 : decode cX3_pairOf 9 = .ok (.if_icmp .lt 5, 3) := by decide +kernel
theorem dX3_pairOf_12 : decode cX3_pairOf 12 = .ok (.iconst (-1), 1) := by decide +kernel
theorem dX3_pairOf_13 : decode cX3_pairOf 13 = .ok (.ireturn, 1) := by decide +kernel
theorem dX3_pairOf_14 : decode cX3_pairOf 14 = .ok (.iconst 0, 1) := by decide +kernel
theorem dX3_pairOf_15 : decode cX3_pairOf 15 = .ok (.istore_n 2, 1) := by decide +kernel
theorem dX3_pairOf_16 : decode cX3_pairOf 16 = .ok (.iconst 0, 1) := by decide +kernel
theorem dX3_pairOf_17 : decode cX3_pairOf 17 = .ok (.istore_n 3, 1) := by decide +kernel
theorem dX3_pairOf_18 : decode cX3_pairOf 18 = .ok (.iload_n 3, 1) := by decide +kernel
theorem dX3_pairOf_19 : decode cX3_pairOf 19 = .ok (.bipush 6, 2) := by decide +kernel
theorem dX3_pairOf_21 : decode cX3_pairOf 21 = .ok (.if_icmp .ge 52, 3) := by decide +kernel
theorem dX3_pairOf_24 : decode cX3_pairOf 24 = .ok (.iload_n 3, 1) := by decide +kernel
theorem dX3_pairOf_25 : decode cX3_pairOf 25 = .ok (.iconst 1, 1) := by decide +kernel
theorem dX3_pairOf_26 : decode cX3_pairOf 26 = .ok (.iadd, 1) := by decide +kernel
theorem dX3_pairOf_27 : decode cX3_pairOf 27 = .ok (.istore 4, 2) := by decide +kernel
theorem dX3_pairOf_29 : decode cX3_pairOf 29 = .ok (.iload 4, 2) := by decide +kernel
theorem dX3_pairOf_31 : decode cX3_pairOf 31 = .ok (.bipush 6, 2) := by decide +kernel
theorem dX3_pairOf_33 : decode cX3_pairOf 33 = .ok (.if_icmp .ge 34, 3) := by decide +kernel
theorem dX3_pairOf_36 : decode cX3_pairOf 36 = .ok (.aload_n 0, 1) := by decide +kernel
theorem dX3_pairOf_37 : decode cX3_pairOf 37 = .ok (.iload_n 3, 1) := by decide +kernel
theorem dX3_pairOf_38 : decode cX3_pairOf 38 = .ok (.iload 4, 2) := by decide +kernel
theorem dX3_pairOf_40 : decode cX3_pairOf 40 = .ok (.invokevirtual 35, 3) := by decide +kernel
theorem dX3_pairOf_43 : decode cX3_pairOf 43 = .ok (.ifCond .le 18, 3) := by decide +kernel
theorem dX3_pairOf_46 : decode cX3_pairOf 46 = .ok (.iload_n 2, 1) := by decide +kernel
theorem dX3_pairOf_47 : decode cX3_pairOf 47 = .ok (.iload_n 1, 1) := by decide +kernel
theorem dX3_pairOf_48 : decode cX3_pairOf 48 = .ok (.if_icmp .ne 10, 3) := by decide +kernel
theorem dX3_pairOf_51 : decode cX3_pairOf 51 = .ok (.iload_n 3, 1) := by decide +kernel
theorem dX3_pairOf_52 : decode cX3_pairOf 52 = .ok (.iload 4, 2) := by decide +kernel
theorem dX3_pairOf_54 : decode cX3_pairOf 54 = .ok (.invokestatic 31, 3) := by decide +kernel
theorem dX3_pairOf_57 : decode cX3_pairOf 57 = .ok (.ireturn, 1) := by decide +kernel
theorem dX3_pairOf_58 : decode cX3_pairOf 58 = .ok (.iinc 2 1, 3) := by decide +kernel
theorem dX3_pairOf_61 : decode cX3_pairOf 61 = .ok (.iinc 4 1, 3) := by decide +kernel
theorem dX3_pairOf_64 : decode cX3_pairOf 64 = .ok (.goto (-35), 3) := by decide +kernel
theorem dX3_pairOf_67 : decode cX3_pairOf 67 = .ok (.iinc 3 1, 3) := by decide +kernel
theorem dX3_pairOf_70 : decode cX3_pairOf 70 = .ok (.goto (-52), 3) := by decide +kernel
theorem dX3_pairOf_73 : decode cX3_pairOf 73 = .ok (.iconst (-1), 1) := by decide +kernel
theorem dX3_pairOf_74 : decode cX3_pairOf 74 = .ok (.ireturn, 1) := by decide +kernel
theorem dX3_neighboursOf_0 : decode cX3_neighboursOf 0 = .ok (.iconst 0, 1) := by decide +kernel
theorem dX3_neighboursOf_1 : decode cX3_neighboursOf 1 = .ok (.istore_n 2, 1) := by decide +kernel
theorem dX3_neighboursOf_2 : decode cX3_neighboursOf 2 = .ok (.iconst 0, 1) := by decide +kernel
theorem dX3_neighboursOf_3 : decode cX3_neighboursOf 3 = .ok (.istore_n 3, 1) := by decide +kernel
theorem dX3_neighboursOf_4 : decode cX3_neighboursOf 4 = .ok (.iload_n 3, 1) := by decide +kernel
theorem dX3_neighboursOf_5 : decode cX3_neighboursOf 5 = .ok (.bipush 6, 2) := by decide +kernel
theorem dX3_neighboursOf_7 : decode cX3_neighboursOf 7 = .ok (.if_icmp .ge 21, 3) := by decide +kernel
theorem dX3_neighboursOf_10 : decode cX3_neighboursOf 10 = .ok (.aload_n 0, 1) := by decide +kernel
theorem dX3_neighboursOf_11 : decode cX3_neighboursOf 11 = .ok (.iload_n 1, 1) := by decide +kernel
theorem dX3_neighboursOf_12 : decode cX3_neighboursOf 12 = .ok (.iload_n 3, 1) := by decide +kernel
theorem dX3_neighboursOf_13 : decode cX3_neighboursOf 13 = .ok (.invokevirtual 35, 3) := by decide +kernel
theorem dX3_neighboursOf_16 : decode cX3_neighboursOf 16 = .ok (.ifCond .le 6, 3) := by decide +kernel
theorem dX3_neighboursOf_19 : decode cX3_neighboursOf 19 = .ok (.iinc 2 1, 3) := by decide +kernel
theorem dX3_neighboursOf_22 : decode cX3_neighboursOf 22 = .ok (.iinc 3 1, 3) := by decide +kernel
theorem dX3_neighboursOf_25 : decode cX3_neighboursOf 25 = .ok (.goto (-21), 3) := by decide +kernel
theorem dX3_neighboursOf_28 : decode cX3_neighboursOf 28 = .ok (.iload_n 2, 1) := by decide +kernel
theorem dX3_neighboursOf_29 : decode cX3_neighboursOf 29 = .ok (.ireturn, 1) := by decide +kernel
theorem dX4_init_0 : decode cX4_init 0 = .ok (.aload_n 0, 1) := by decide +kernel
theorem dX4_init_1 : decode cX4_init 1 = .ok (.invokespecial 3, 3) := by decide +kernel
theorem dX4_init_4 : decode cX4_init 4 = .ok (.aload_n 0, 1) := by decide +kernel
theorem dX4_init_5 : decode cX4_init 5 = .ok (.bipush 8, 2) := by decide +kernel
theorem dX4_init_7 : decode cX4_init 7 = .ok (.anewarray 9, 3) := by decide +kernel
theorem dX4_init_10 : decode cX4_init 10 = .ok (.putfield 11, 3) := by decide +kernel
theorem dX4_init_13 : decode cX4_init 13 = .ok (.iconst 0, 1) := by decide +kernel
theorem dX4_init_14 : decode cX4_init 14 = .ok (.istore_n 1, 1) := by decide +kernel
theorem dX4_init_15 : decode cX4_init 15 = .ok (.iload_n 1, 1) := by decide +kernel
theorem dX4_init_16 : decode cX4_init 16 = .ok (.bipush 8, 2) := by decide +kernel
theorem dX4_init_18 : decode cX4_init 18 = .ok (.if_icmp .ge 22, 3) := by decide +kernel
theorem dX4_init_21 : decode cX4_init 21 = .ok (.aload_n 0, 1) := by decide +kernel
theorem dX4_init_22 : decode cX4_init 22 = .ok (.getfield 11, 3) := by decide +kernel
theorem dX4_init_25 : decode cX4_init 25 = .ok (.iload_n 1, 1) := by decide +kernel
theorem dX4_init_26 : decode cX4_init 26 = .ok (.new 9, 3) := by decide +kernel
theorem dX4_init_29 : decode cX4_init 29 = .ok (.dup, 1) := by decide +kernel
theorem dX4_init_30 : decode cX4_init 30 = .ok (.invokespecial 17, 3) := by decide +kernel
theorem dX4_init_33 : decode cX4_init 33 = .ok (.aastore, 1) := by decide +kernel
theorem dX4_init_34 : decode cX4_init 34 = .ok (.iinc 1 1, 3) := by decide +kernel
theorem dX4_init_37 : decode cX4_init 37 = .ok (.goto (-22), 3) := by decide +kernel
theorem dX4_init_40 : decode cX4_init 40 = .ok (.return_, 1) := by decide +kernel
theorem dX4_push_0 : decode cX4_push 0 = .ok (.aload_n 0, 1) := by decide +kernel
theorem dX4_push_1 : decode cX4_push 1 = .ok (.aload_n 0, 1) := by decide +kernel
theorem dX4_push_2 : decode cX4_push 2 = .ok (.getfield 18, 3) := by decide +kernel
theorem dX4_push_5 : decode cX4_push 5 = .ok (.iconst 1, 1) := by decide +kernel
theorem dX4_push_6 : decode cX4_push 6 = .ok (.iadd, 1) := by decide +kernel
theorem dX4_push_7 : decode cX4_push 7 = .ok (.bipush 8, 2) := by decide +kernel
theorem dX4_push_9 : decode cX4_push 9 = .ok (.if_icmp .ge 12, 3) := by decide +kernel
theorem dX4_push_12 : decode cX4_push 12 = .ok (.aload_n 0, 1) := by decide +kernel
theorem dX4_push_13 : decode cX4_push 13 = .ok (.getfield 18, 3) := by decide +kernel
theorem dX4_push_16 : decode cX4_push 16 = .ok (.iconst 1, 1) := by decide +kernel
theorem dX4_push_17 : decode cX4_push 17 = .ok (.iadd, 1) := by decide +kernel
theorem dX4_push_18 : decode cX4_push 18 = .ok (.goto 4, 3) := by decide +kernel
theorem dX4_push_21 : decode cX4_push 21 = .ok (.iconst 0, 1) := by decide +kernel
theorem dX4_push_22 : decode cX4_push 22 = .ok (.putfield 18, 3) := by decide +kernel
theorem dX4_push_25 : decode cX4_push 25 = .ok (.aload_n 0, 1) := by decide +kernel
theorem dX4_push_26 : decode cX4_push 26 = .ok (.getfield 11, 3) := by decide +kernel
theorem dX4_push_29 : decode cX4_push 29 = .ok (.aload_n 0, 1) := by decide +kernel
theorem dX4_push_30 : decode cX4_push 30 = .ok (.getfield 18, 3) := by decide +kernel
theorem dX4_push_33 : decode cX4_push 33 = .ok (.aaload, 1) := by decide +kernel
theorem dX4_push_34 : decode cX4_push 34 = .ok (.aload_n 1, 1) := by decide +kernel
theorem dX4_push_35 : decode cX4_push 35 = .ok (.invokevirtual 22, 3) := by decide +kernel
theorem dX4_push_38 : decode cX4_push 38 = .ok (.aload_n 0, 1) := by decide +kernel
theorem dX4_push_39 : decode cX4_push 39 = .ok (.getfield 26, 3) := by decide +kernel
theorem dX4_push_42 : decode cX4_push 42 = .ok (.bipush 8, 2) := by decide +kernel
theorem dX4_push_44 : decode cX4_push 44 = .ok (.if_icmp .ge 13, 3) := by decide +kernel
theorem dX4_push_47 : decode cX4_push 47 = .ok (.aload_n 0, 1) := by decide +kernel
theorem dX4_push_48 : decode cX4_push 48 = .ok (.dup, 1) := by decide +kernel
theorem dX4_push_49 : decode cX4_push 49 = .ok (.getfield 26, 3) := by decide +kernel
theorem dX4_push_52 : decode cX4_push 52 = .ok (.iconst 1, 1) := by decide +kernel
theorem dX4_push_53 : decode cX4_push 53 = .ok (.iadd, 1) := by decide +kernel
theorem dX4_push_54 : decode cX4_push 54 = .ok (.putfield 26, 3) := by decide +kernel
theorem dX4_push_57 : decode cX4_push 57 = .ok (.return_, 1) := by decide +kernel
theorem dX4_pop_0 : decode cX4_pop 0 = .ok (.aload_n 0, 1) := by decide +kernel
theorem dX4_pop_1 : decode cX4_pop 1 = .ok (.getfield 26, 3) := by decide +kernel
theorem dX4_pop_4 : decode cX4_pop 4 = .ok (.ifCond .ne 5, 3) := by decide +kernel
theorem dX4_pop_7 : decode cX4_pop 7 = .ok (.iconst 0, 1) := by decide +kernel
theorem dX4_pop_8 : decode cX4_pop 8 = .ok (.ireturn, 1) := by decide +kernel
theorem dX4_pop_9 : decode cX4_pop 9 = .ok (.aload_n 1, 1) := by decide +kernel
theorem dX4_pop_10 : decode cX4_pop 10 = .ok (.aload_n 0, 1) := by decide +kernel
theorem dX4_pop_11 : decode cX4_pop 11 = .ok (.getfield 11, 3) := by decide +kernel
theorem dX4_pop_14 : decode cX4_pop 14 = .ok (.aload_n 0, 1) := by decide +kernel
theorem dX4_pop_15 : decode cX4_pop 15 = .ok (.getfield 18, 3) := by decide +kernel
theorem dX4_pop_18 : decode cX4_pop 18 = .ok (.aaload, 1) := by decide +kernel
theorem dX4_pop_19 : decode cX4_pop 19 = .ok (.invokevirtual 22, 3) := by decide +kernel
theorem dX4_pop_22 : decode cX4_pop 22 = .ok (.aload_n 0, 1) := by decide +kernel
theorem dX4_pop_23 : decode cX4_pop 23 = .ok (.aload_n 0, 1) := by decide +kernel
theorem dX4_pop_24 : decode cX4_pop 24 = .ok (.getfield 18, 3) := by decide +kernel
theorem dX4_pop_27 : decode cX4_pop 27 = .ok (.ifCond .le 12, 3) := by decide +kernel
theorem dX4_pop_30 : decode cX4_pop 30 = .ok (.aload_n 0, 1) := by decide +kernel
theorem dX4_pop_31 : decode cX4_pop 31 = .ok (.getfield 18, 3) := by decide +kernel
theorem dX4_pop_34 : decode cX4_pop 34 = .ok (.iconst 1, 1) := by decide +kernel
theorem dX4_pop_35 : decode cX4_pop 35 = .ok (.isub, 1) := by decide +kernel
theorem dX4_pop_36 : decode cX4_pop 36 = .ok (.goto 5, 3) := by decide +kernel
theorem dX4_pop_39 : decode cX4_pop 39 = .ok (.bipush 7, 2) := by decide +kernel
theorem dX4_pop_41 : decode cX4_pop 41 = .ok (.putfield 18, 3) := by decide +kernel
theorem dX4_pop_44 : decode cX4_pop 44 = .ok (.aload_n 0, 1) := by decide +kernel
theorem dX4_pop_45 : decode cX4_pop 45 = .ok (.dup, 1) := by decide +kernel
theorem dX4_pop_46 : decode cX4_pop 46 = .ok (.getfield 26, 3) := by decide +kernel
theorem dX4_pop_49 : decode cX4_pop 49 = .ok (.iconst 1, 1) := by decide +kernel
theorem dX4_pop_50 : decode cX4_pop 50 = .ok (.isub, 1) := by decide +kernel
theorem dX4_pop_51 : decode cX4_pop 51 = .ok (.putfield 26, 3) := by decide +kernel
theorem dX4_pop_54 : decode cX4_pop 54 = .ok (.iconst 1, 1) := by decide +kernel
theorem dX4_pop_55 : decode cX4_pop 55 = .ok (.ireturn, 1) := by decide +kernel
theorem dJ7_fill_53178_0 : decode cJ7_fill_53178 0 = .ok (.iconst 0, 1) := by decide +kernel
theorem dJ7_fill_53178_1 : decode cJ7_fill_53178 1 = .ok (.istore_n 2, 1) := by decide +kernel
theorem dJ7_fill_53178_2 : decode cJ7_fill_53178 2 = .ok (.aload_n 0, 1) := by decide +kernel
theorem dJ7_fill_53178_3 : decode cJ7_fill_53178 3 = .ok (.arraylength, 1) := by decide +kernel
theorem dJ7_fill_53178_4 : decode cJ7_fill_53178 4 = .ok (.istore_n 3, 1) := by decide +kernel
theorem dJ7_fill_53178_5 : decode cJ7_fill_53178 5 = .ok (.iload_n 2, 1) := by decide +kernel
theorem dJ7_fill_53178_6 : decode cJ7_fill_53178 6 = .ok (.iload_n 3, 1) := by decide +kernel
theorem dJ7_fill_53178_7 : decode cJ7_fill_53178 7 = .ok (.if_icmp .ge 13, 3) := by decide +kernel
theorem dJ7_fill_53178_10 : decode cJ7_fill_53178 10 = .ok (.aload_n 0, 1) := by decide +kernel
theorem dJ7_fill_53178_11 : decode cJ7_fill_53178 11 = .ok (.iload_n 2, 1) := by decide +kernel
theorem dJ7_fill_53178_12 : decode cJ7_fill_53178 12 = .ok (.iload_n 1, 1) := by decide +kernel
theorem dJ7_fill_53178_13 : decode cJ7_fill_53178 13 = .ok (.iastore, 1) := by decide +kernel
theorem dJ7_fill_53178_14 : decode cJ7_fill_53178 14 = .ok (.iinc 2 1, 3) := by decide +kernel
theorem dJ7_fill_53178_17 : decode cJ7_fill_53178 17 = .ok (.goto (-12), 3) := by decide +kernel
theorem dJ7_fill_53178_20 : decode cJ7_fill_53178 20 = .ok (.return_, 1) := by decide +kernel
theorem dJ9_max_7cf53_0 : decode cJ9_max_7cf53 0 = .ok (.iload_n 0, 1) := by decide +kernel
theorem dJ9_max_7cf53_1 : decode cJ9_max_7cf53 1 = .ok (.iload_n 1, 1) := by decide +kernel
theorem dJ9_max_7cf53_2 : decode cJ9_max_7cf53 2 = .ok (.if_icmp .lt 7, 3) := by decide +kernel
theorem dJ9_max_7cf53_5 : decode cJ9_max_7cf53 5 = .ok (.iload_n 0, 1) := by decide +kernel
theorem dJ9_max_7cf53_6 : decode cJ9_max_7cf53 6 = .ok (.goto 4, 3) := by decide +kernel
theorem dJ9_max_7cf53_9 : decode cJ9_max_7cf53 9 = .ok (.iload_n 1, 1) := by decide +kernel
theorem dJ9_max_7cf53_10 : decode cJ9_max_7cf53 10 = .ok (.ireturn, 1) := by decide +kernel
theorem dJ9_min_7cf53_0 : decode cJ9_min_7cf53 0 = .ok (.iload_n 0, 1) := by decide +kernel
theorem dJ9_min_7cf53_1 : decode cJ9_min_7cf53 1 = .ok (.iload_n 1, 1) := by decide +kernel
theorem dJ9_min_7cf53_2 : decode cJ9_min_7cf53 2 = .ok (.if_icmp .gt 7, 3) := by decide +kernel
theorem dJ9_min_7cf53_5 : decode cJ9_min_7cf53 5 = .ok (.iload_n 0, 1) := by decide +kernel
theorem dJ9_min_7cf53_6 : decode cJ9_min_7cf53 6 = .ok (.goto 4, 3) := by decide +kernel
theorem dJ9_min_7cf53_9 : decode cJ9_min_7cf53 9 = .ok (.iload_n 1, 1) := by decide +kernel
theorem dJ9_min_7cf53_10 : decode cJ9_min_7cf53 10 = .ok (.ireturn, 1) := by decide +kernel
