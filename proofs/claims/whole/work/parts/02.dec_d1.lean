theorem dX12_cuts_13 : decode cX12_cuts 13 = .ok (.ireturn, 1) := by decide +kernel
theorem dX12_cuts_14 : decode cX12_cuts 14 = .ok (.aload_n 0, 1) := by decide +kernel
theorem dX12_cuts_15 : decode cX12_cuts 15 = .ok (.invokevirtual 165, 3) := by decide +kernel
theorem dX12_cuts_18 : decode cX12_cuts 18 = .ok (.aload_n 0, 1) := by decide +kernel
theorem dX12_cuts_19 : decode cX12_cuts 19 = .ok (.getfield 19, 3) := by decide +kernel
theorem dX12_cuts_22 : decode cX12_cuts 22 = .ok (.bipush 118, 2) := by decide +kernel
theorem dX12_cuts_24 : decode cX12_cuts 24 = .ok (.iload_n 2, 1) := by decide +kernel
theorem dX12_cuts_25 : decode cX12_cuts 25 = .ok (.iadd, 1) := by decide +kernel
theorem dX12_cuts_26 : decode cX12_cuts 26 = .ok (.iconst 0, 1) := by decide +kernel
theorem dX12_cuts_27 : decode cX12_cuts 27 = .ok (.iastore, 1) := by decide +kernel
theorem dX12_cuts_28 : decode cX12_cuts 28 = .ok (.aload_n 0, 1) := by decide +kernel
theorem dX12_cuts_29 : decode cX12_cuts 29 = .ok (.getfield 19, 3) := by decide +kernel
theorem dX12_cuts_32 : decode cX12_cuts 32 = .ok (.sipush 154, 3) := by decide +kernel
theorem dX12_cuts_35 : decode cX12_cuts 35 = .ok (.iload_n 2, 1) := by decide +kernel
theorem dX12_cuts_36 : decode cX12_cuts 36 = .ok (.iadd, 1) := by decide +kernel
theorem dX12_cuts_37 : decode cX12_cuts 37 = .ok (.iconst 0, 1) := by decide +kernel
theorem dX12_cuts_38 : decode cX12_cuts 38 = .ok (.iastore, 1) := by decide +kernel
theorem dX12_cuts_39 : decode cX12_cuts 39 = .ok (.aload_n 0, 1) := by decide +kernel
theorem dX12_cuts_40 : decode cX12_cuts 40 = .ok (.iload_n 2, 1) := by decide +kernel
theorem dX12_cuts_41 : decode cX12_cuts 41 = .ok (.bipush 6, 2) := by decide +kernel
theorem dX12_cuts_43 : decode cX12_cuts 43 = .ok (.idiv, 1) := by decide +kernel
theorem dX12_cuts_44 : decode cX12_cuts 44 = .ok (.iload_n 2, 1) := by decide +kernel
theorem dX12_cuts_45 : decode cX12_cuts 45 = .ok (.bipush 6, 2) := by decide +kernel
theorem dX12_cuts_47 : decode cX12_cuts 47 = .ok (.irem, 1) := by decide +kernel
theorem dX12_cuts_48 : decode cX12_cuts 48 = .ok (.invokevirtual 171, 3) := by decide +kernel
theorem dX12_cuts_51 : decode cX12_cuts 51 = .ok (.aload_n 0, 1) := by decide +kernel
theorem dX12_cuts_52 : decode cX12_cuts 52 = .ok (.invokevirtual 175, 3) := by decide +kernel
theorem dX12_cuts_55 : decode cX12_cuts 55 = .ok (.ireturn, 1) := by decide +kernel
theorem dX12_lays_0 : decode cX12_lays 0 = .ok (.aload_n 0, 1) := by decide +kernel
theorem dX12_lays_1 : decode cX12_lays 1 = .ok (.iload_n 1, 1) := by decide +kernel
theorem dX12_lays_2 : decode cX12_lays 2 = .ok (.invokevirtual 162, 3) := by decide +kernel
theorem dX12_lays_5 : decode cX12_lays 5 = .ok (.ifCond .eq 26, 3) := by decide +kernel
theorem dX12_lays_8 : decode cX12_lays 8 = .ok (.aload_n 0, 1) := by decide +kernel
theorem dX12_lays_9 : decode cX12_lays 9 = .ok (.iload_n 2, 1) := by decide +kernel
theorem dX12_lays_10 : decode cX12_lays 10 = .ok (.invokevirtual 162, 3) := by decide +kernel
theorem dX12_lays_13 : decode cX12_lays 13 = .ok (.ifCond .eq 18, 3) := by decide +kernel
theorem dX12_lays_16 : decode cX12_lays 16 = .ok (.iload_n 1, 1) := by decide +kernel
theorem dX12_lays_17 : decode cX12_lays 17 = .ok (.iload_n 2, 1) := by decide +kernel
theorem dX12_lays_18 : decode cX12_lays 18 = .ok (.if_icmp .eq 13, 3) := by decide +kernel
theorem dX12_lays_21 : decode cX12_lays 21 = .ok (.iload_n 3, 1) := by decide +kernel
theorem dX12_lays_22 : decode cX12_lays 22 = .ok (.iconst 1, 1) := by decide +kernel
theorem dX12_lays_23 : decode cX12_lays 23 = .ok (.bipush 9, 2) := by decide +kernel
theorem dX12_lays_25 : decode cX12_lays 25 = .ok (.invokestatic 58, 3) := by decide +kernel
theorem dX12_lays_28 : decode cX12_lays 28 = .ok (.ifCond .ne 5, 3) := by decide +kernel
theorem dX12_lays_31 : decode cX12_lays 31 = .ok (.iconst (-1), 1) := by decide +kernel
theorem dX12_lays_32 : decode cX12_lays 32 = .ok (.ireturn, 1) := by decide +kernel
theorem dX12_lays_33 : decode cX12_lays 33 = .ok (.aload_n 0, 1) := by decide +kernel
theorem dX12_lays_34 : decode cX12_lays 34 = .ok (.iload_n 1, 1) := by decide +kernel
theorem dX12_lays_35 : decode cX12_lays 35 = .ok (.iload_n 2, 1) := by decide +kernel
theorem dX12_lays_36 : decode cX12_lays 36 = .ok (.invokevirtual 143, 3) := by decide +kernel
theorem dX12_lays_39 : decode cX12_lays 39 = .ok (.ifCond .le 6, 3) := by decide +kernel
theorem dX12_lays_42 : decode cX12_lays 42 = .ok (.bipush (-2), 2) := by decide +kernel
theorem dX12_lays_44 : decode cX12_lays 44 = .ok (.ireturn, 1) := by decide +kernel
theorem dX12_lays_45 : decode cX12_lays 45 = .ok (.aload_n 0, 1) := by decide +kernel
theorem dX12_lays_46 : decode cX12_lays 46 = .ok (.invokevirtual 175, 3) := by decide +kernel
theorem dX12_lays_49 : decode cX12_lays 49 = .ok (.bipush 10, 2) := by decide +kernel
theorem dX12_lays_51 : decode cX12_lays 51 = .ok (.if_icmp .ne 6, 3) := by decide +kernel
theorem dX12_lays_54 : decode cX12_lays 54 = .ok (.bipush (-3), 2) := by decide +kernel
theorem dX12_lays_56 : decode cX12_lays 56 = .ok (.ireturn, 1) := by decide +kernel
theorem dX12_lays_57 : decode cX12_lays 57 = .ok (.aload_n 0, 1) := by decide +kernel
theorem dX12_lays_58 : decode cX12_lays 58 = .ok (.invokevirtual 165, 3) := by decide +kernel
theorem dX12_lays_61 : decode cX12_lays 61 = .ok (.aload_n 0, 1) := by decide +kernel
theorem dX12_lays_62 : decode cX12_lays 62 = .ok (.getfield 19, 3) := by decide +kernel
theorem dX12_lays_65 : decode cX12_lays 65 = .ok (.bipush 118, 2) := by decide +kernel
theorem dX12_lays_67 : decode cX12_lays 67 = .ok (.iload_n 1, 1) := by decide +kernel
theorem dX12_lays_68 : decode cX12_lays 68 = .ok (.iload_n 2, 1) := by decide +kernel
theorem dX12_lays_69 : decode cX12_lays 69 = .ok (.invokestatic 62, 3) := by decide +kernel
theorem dX12_lays_72 : decode cX12_lays 72 = .ok (.iadd, 1) := by decide +kernel
theorem dX12_lays_73 : decode cX12_lays 73 = .ok (.iload_n 3, 1) := by decide +kernel
theorem dX12_lays_74 : decode cX12_lays 74 = .ok (.iastore, 1) := by decide +kernel
theorem dX12_lays_75 : decode cX12_lays 75 = .ok (.aload_n 0, 1) := by decide +kernel
theorem dX12_lays_76 : decode cX12_lays 76 = .ok (.invokevirtual 175, 3) := by decide +kernel
theorem dX12_lays_79 : decode cX12_lays 79 = .ok (.ireturn, 1) := by decide +kernel
theorem dX12_changes_0 : decode cX12_changes 0 = .ok (.aload_n 0, 1) := by decide +kernel
theorem dX12_changes_1 : decode cX12_changes 1 = .ok (.iload_n 1, 1) := by decide +kernel
theorem dX12_changes_2 : decode cX12_changes 2 = .ok (.invokevirtual 135, 3) := by decide +kernel
theorem dX12_changes_5 : decode cX12_changes 5 = .ok (.istore_n 3, 1) := by decide +kernel
theorem dX12_changes_6 : decode cX12_changes 6 = .ok (.iload_n 3, 1) := by decide +kernel
theorem dX12_changes_7 : decode cX12_changes 7 = .ok (.bipush (-9), 2) := by decide +kernel
theorem dX12_changes_9 : decode cX12_changes 9 = .ok (.if_icmp .eq 13, 3) := by decide +kernel
theorem dX12_changes_12 : decode cX12_changes 12 = .ok (.iload_n 2, 1) := by decide +kernel
theorem dX12_changes_13 : decode cX12_changes 13 = .ok (.iconst 1, 1) := by decide +kernel
theorem dX12_changes_14 : decode cX12_changes 14 = .ok (.bipush 9, 2) := by decide +kernel
theorem dX12_changes_16 : decode cX12_changes 16 = .ok (.invokestatic 58, 3) := by decide +kernel
theorem dX12_changes_19 : decode cX12_changes 19 = .ok (.ifCond .ne 5, 3) := by decide +kernel
theorem dX12_changes_22 : decode cX12_changes 22 = .ok (.iconst (-1), 1) := by decide +kernel
theorem dX12_changes_23 : decode cX12_changes 23 = .ok (.ireturn, 1) := by decide +kernel
theorem dX12_changes_24 : decode cX12_changes 24 = .ok (.aload_n 0, 1) := by decide +kernel
theorem dX12_changes_25 : decode cX12_changes 25 = .ok (.getfield 19, 3) := by decide +kernel
theorem dX12_changes_28 : decode cX12_changes 28 = .ok (.bipush 118, 2) := by decide +kernel
theorem dX12_changes_30 : decode cX12_changes 30 = .ok (.iload_n 3, 1) := by decide +kernel
theorem dX12_changes_31 : decode cX12_changes 31 = .ok (.iadd, 1) := by decide +kernel
theorem dX12_changes_32 : decode cX12_changes 32 = .ok (.iaload, 1) := by decide +kernel
theorem dX12_changes_33 : decode cX12_changes 33 = .ok (.istore 4, 2) := by decide +kernel
theorem dX12_changes_35 : decode cX12_changes 35 = .ok (.iload 4, 2) := by decide +kernel
theorem dX12_changes_37 : decode cX12_changes 37 = .ok (.iload_n 2, 1) := by decide +kernel
theorem dX12_changes_38 : decode cX12_changes 38 = .ok (.if_icmp .ne 6, 3) := by decide +kernel
theorem dX12_changes_41 : decode cX12_changes 41 = .ok (.bipush (-2), 2) := by decide +kernel
theorem dX12_changes_43 : decode cX12_changes 43 = .ok (.ireturn, 1) := by decide +kernel
theorem dX12_changes_44 : decode cX12_changes 44 = .ok (.aload_n 0, 1) := by decide +kernel
theorem dX12_changes_45 : decode cX12_changes 45 = .ok (.invokevirtual 165, 3) := by decide +kernel
theorem dX12_changes_48 : decode cX12_changes 48 = .ok (.aload_n 0, 1) := by decide +kernel
theorem dX12_changes_49 : decode cX12_changes 49 = .ok (.getfield 19, 3) := by decide +kernel
theorem dX12_changes_52 : decode cX12_changes 52 = .ok (.bipush 118, 2) := by decide +kernel
theorem dX12_changes_54 : decode cX12_changes 54 = .ok (.iload_n 3, 1) := by decide +kernel
theorem dX12_changes_55 : decode cX12_changes 55 = .ok (.iadd, 1) := by decide +kernel
theorem dX12_changes_56 : decode cX12_changes 56 = .ok (.iload_n 2, 1) := by decide +kernel
theorem dX12_changes_57 : decode cX12_changes 57 = .ok (.iastore, 1) := by decide +kernel
theorem dX12_changes_58 : decode cX12_changes 58 = .ok (.iload 4, 2) := by decide +kernel
theorem dX12_changes_60 : decode cX12_changes 60 = .ok (.ireturn, 1) := by decide +kernel
theorem dX12_undo_0 : decode cX12_undo 0 = .ok (.aload_n 0, 1) := by decide +kernel
theorem dX12_undo_1 : decode cX12_undo 1 = .ok (.getfield 129, 3) := by decide +kernel
theorem dX12_undo_4 : decode cX12_undo 4 = .ok (.ifCond .ne 6, 3) := by decide +kernel
theorem dX12_undo_7 : decode cX12_undo 7 = .ok (.bipush (-2), 2) := by decide +kernel
theorem dX12_undo_9 : decode cX12_undo 9 = .ok (.ireturn, 1) := by decide +kernel
theorem dX12_undo_10 : decode cX12_undo 10 = .ok (.aload_n 0, 1) := by decide +kernel
theorem dX12_undo_11 : decode cX12_undo 11 = .ok (.aload_n 0, 1) := by decide +kernel
theorem dX12_undo_12 : decode cX12_undo 12 = .ok (.getfield 149, 3) := by decide +kernel
theorem dX12_undo_15 : decode cX12_undo 15 = .ok (.bipush 8, 2) := by decide +kernel
theorem dX12_undo_17 : decode cX12_undo 17 = .ok (.iadd, 1) := by decide +kernel
theorem dX12_undo_18 : decode cX12_undo 18 = .ok (.iconst 1, 1) := by decide +kernel
theorem dX12_undo_19 : decode cX12_undo 19 = .ok (.isub, 1) := by decide +kernel
theorem dX12_undo_20 : decode cX12_undo 20 = .ok (.bipush 8, 2) := by decide +kernel
theorem dX12_undo_22 : decode cX12_undo 22 = .ok (.irem, 1) := by decide +kernel
theorem dX12_undo_23 : decode cX12_undo 23 = .ok (.putfield 149, 3) := by decide +kernel
theorem dX12_undo_26 : decode cX12_undo 26 = .ok (.aload_n 0, 1) := by decide +kernel
theorem dX12_undo_27 : decode cX12_undo 27 = .ok (.dup, 1) := by decide +kernel
theorem dX12_undo_28 : decode cX12_undo 28 = .ok (.getfield 129, 3) := by decide +kernel
theorem dX12_undo_31 : decode cX12_undo 31 = .ok (.iconst 1, 1) := by decide +kernel
theorem dX12_undo_32 : decode cX12_undo 32 = .ok (.isub, 1) := by decide +kernel
theorem dX12_undo_33 : decode cX12_undo 33 = .ok (.putfield 129, 3) := by decide +kernel
theorem dX12_undo_36 : decode cX12_undo 36 = .ok (.iconst 0, 1) := by decide +kernel
theorem dX12_undo_37 : decode cX12_undo 37 = .ok (.istore_n 1, 1) := by decide +kernel
theorem dX12_undo_38 : decode cX12_undo 38 = .ok (.iload_n 1, 1) := by decide +kernel
theorem dX12_undo_39 : decode cX12_undo 39 = .ok (.sipush 622, 3) := by decide +kernel
theorem dX12_undo_42 : decode cX12_undo 42 = .ok (.if_icmp .ge 30, 3) := by decide +kernel
theorem dX12_undo_45 : decode cX12_undo 45 = .ok (.aload_n 0, 1) := by decide +kernel
theorem dX12_undo_46 : decode cX12_undo 46 = .ok (.getfield 19, 3) := by decide +kernel
theorem dX12_undo_49 : decode cX12_undo 49 = .ok (.iload_n 1, 1) := by decide +kernel
theorem dX12_undo_50 : decode cX12_undo 50 = .ok (.aload_n 0, 1) := by decide +kernel
theorem dX12_undo_51 : decode cX12_undo 51 = .ok (.getfield 23, 3) := by decide +kernel
theorem dX12_undo_54 : decode cX12_undo 54 = .ok (.sipush 622, 3) := by decide +kernel
theorem dX12_undo_57 : decode cX12_undo 57 = .ok (.aload_n 0, 1) := by decide +kernel
theorem dX12_undo_58 : decode cX12_undo 58 = .ok (.getfield 149, 3) := by decide +kernel
theorem dX12_undo_61 : decode cX12_undo 61 = .ok (.imul, 1) := by decide +kernel
theorem dX12_undo_62 : decode cX12_undo 62 = .ok (.iload_n 1, 1) := by decide +kernel
theorem dX12_undo_63 : decode cX12_undo 63 = .ok (.iadd, 1) := by decide +kernel
theorem dX12_undo_64 : decode cX12_undo 64 = .ok (.iaload, 1) := by decide +kernel
theorem dX12_undo_65 : decode cX12_undo 65 = .ok (.iastore, 1) := by decide +kernel
theorem dX12_undo_66 : decode cX12_undo 66 = .ok (.iinc 1 1, 3) := by decide +kernel
theorem dX12_undo_69 : decode cX12_undo 69 = .ok (.goto (-31), 3) := by decide +kernel
theorem dX12_undo_72 : decode cX12_undo 72 = .ok (.aload_n 0, 1) := by decide +kernel
theorem dX12_undo_73 : decode cX12_undo 73 = .ok (.getfield 129, 3) := by decide +kernel
theorem dX12_undo_76 : decode cX12_undo 76 = .ok (.ireturn, 1) := by decide +kernel
theorem dX12_whyNoGuess_0 : decode cX12_whyNoGuess 0 = .ok (.aload_n 0, 1) := by decide +kernel
theorem dX12_whyNoGuess_1 : decode cX12_whyNoGuess 1 = .ok (.iload_n 1, 1) := by decide +kernel
theorem dX12_whyNoGuess_2 : decode cX12_whyNoGuess 2 = .ok (.invokevirtual 162, 3) := by decide +kernel
theorem dX12_whyNoGuess_5 : decode cX12_whyNoGuess 5 = .ok (.ifCond .eq 24, 3) := by decide +kernel
theorem dX12_whyNoGuess_8 : decode cX12_whyNoGuess 8 = .ok (.aload_n 0, 1) := by decide +kernel
theorem dX12_whyNoGuess_9 : decode cX12_whyNoGuess 9 = .ok (.iload_n 2, 1) := by decide +kernel
theorem dX12_whyNoGuess_10 : decode cX12_whyNoGuess 10 = .ok (.invokevirtual 162, 3) := by decide +kernel
theorem dX12_whyNoGuess_13 : decode cX12_whyNoGuess 13 = .ok (.ifCond .eq 16, 3) := by decide +kernel
theorem dX12_whyNoGuess_16 : decode cX12_whyNoGuess 16 = .ok (.aload_n 0, 1) := by decide +kernel
theorem dX12_whyNoGuess_17 : decode cX12_whyNoGuess 17 = .ok (.iload_n 3, 1) := by decide +kernel
theorem dX12_whyNoGuess_18 : decode cX12_whyNoGuess 18 = .ok (.invokevirtual 162, 3) := by decide +kernel
theorem dX12_whyNoGuess_21 : decode cX12_whyNoGuess 21 = .ok (.ifCond .eq 8, 3) := by decide +kernel
theorem dX12_whyNoGuess_24 : decode cX12_whyNoGuess 24 = .ok (.iload_n 1, 1) := by decide +kernel
theorem dX12_whyNoGuess_25 : decode cX12_whyNoGuess 25 = .ok (.iload_n 2, 1) := by decide +kernel
theorem dX12_whyNoGuess_26 : decode cX12_whyNoGuess 26 = .ok (.if_icmp .ne 5, 3) := by decide +kernel
theorem dX12_whyNoGuess_29 : decode cX12_whyNoGuess 29 = .ok (.iconst (-1), 1) := by decide +kernel
theorem dX12_whyNoGuess_30 : decode cX12_whyNoGuess 30 = .ok (.ireturn, 1) := by decide +kernel
theorem dX12_whyNoGuess_31 : decode cX12_whyNoGuess 31 = .ok (.aload_n 0, 1) := by decide +kernel
theorem dX12_whyNoGuess_32 : decode cX12_whyNoGuess 32 = .ok (.iload_n 1, 1) := by decide +kernel
theorem dX12_whyNoGuess_33 : decode cX12_whyNoGuess 33 = .ok (.iload_n 3, 1) := by decide +kernel
theorem dX12_whyNoGuess_34 : decode cX12_whyNoGuess 34 = .ok (.invokevirtual 143, 3) := by decide +kernel
theorem dX12_whyNoGuess_37 : decode cX12_whyNoGuess 37 = .ok (.ifCond .le 7, 3) := by decide +kernel
theorem dX12_whyNoGuess_40 : decode cX12_whyNoGuess 40 = .ok (.iconst 0, 1) := by decide +kernel
theorem dX12_whyNoGuess_41 : decode cX12_whyNoGuess 41 = .ok (.goto 5, 3) := by decide +kernel
theorem dX12_whyNoGuess_44 : decode cX12_whyNoGuess 44 = .ok (.bipush (-2), 2) := by decide +kernel
theorem dX12_whyNoGuess_46 : decode cX12_whyNoGuess 46 = .ok (.ireturn, 1) := by decide +kernel
theorem dX12_guess_0 : decode cX12_guess 0 = .ok (.aload_n 0, 1) := by decide +kernel
theorem dX12_guess_1 : decode cX12_guess 1 = .ok (.iload_n 1, 1) := by decide +kernel
theorem dX12_guess_2 : decode cX12_guess 2 = .ok (.iload_n 2, 1) := by decide +kernel
theorem dX12_guess_3 : decode cX12_guess 3 = .ok (.iload_n 3, 1) := by decide +kernel
theorem dX12_guess_4 : decode cX12_guess 4 = .ok (.invokevirtual 179, 3) := by decide +kernel
theorem dX12_guess_7 : decode cX12_guess 7 = .ok (.istore 4, 2) := by decide +kernel
theorem dX12_guess_9 : decode cX12_guess 9 = .ok (.iload 4, 2) := by decide +kernel
theorem dX12_guess_11 : decode cX12_guess 11 = .ok (.ifCond .eq 8, 3) := by decide +kernel
theorem dX12_guess_14 : decode cX12_guess 14 = .ok (.iload 4, 2) := by decide +kernel
theorem dX12_guess_16 : decode cX12_guess 16 = .ok (.goto 10, 3) := by decide +kernel
theorem dX12_guess_19 : decode cX12_guess 19 = .ok (.aload_n 0, 1) := by decide +kernel
theorem dX12_guess_20 : decode cX12_guess 20 = .ok (.iload_n 1, 1) := by decide +kernel
theorem dX12_guess_21 : decode cX12_guess 21 = .ok (.iload_n 2, 1) := by decide +kernel
theorem dX12_guess_22 : decode cX12_guess 22 = .ok (.iload_n 3, 1) := by decide +kernel
theorem dX12_guess_23 : decode cX12_guess 23 = .ok (.invokevirtual 146, 3) := by decide +kernel
theorem dX12_guess_26 : decode cX12_guess 26 = .ok (.ireturn, 1) := by decide +kernel
theorem dX12_mended_0 : decode cX12_mended 0 = .ok (.aload_n 0, 1) := by decide +kernel
theorem dX12_mended_1 : decode cX12_mended 1 = .ok (.iload_n 1, 1) := by decide +kernel
theorem dX12_mended_2 : decode cX12_mended 2 = .ok (.iload_n 2, 1) := by decide +kernel
theorem dX12_mended_3 : decode cX12_mended 3 = .ok (.iload_n 3, 1) := by decide +kernel
theorem dX12_mended_4 : decode cX12_mended 4 = .ok (.invokevirtual 179, 3) := by decide +kernel
theorem dX12_mended_7 : decode cX12_mended 7 = .ok (.istore 4, 2) := by decide +kernel
theorem dX12_mended_9 : decode cX12_mended 9 = .ok (.iload 4, 2) := by decide +kernel
theorem dX12_mended_11 : decode cX12_mended 11 = .ok (.ifCond .eq 6, 3) := by decide +kernel
theorem dX12_mended_14 : decode cX12_mended 14 = .ok (.iload 4, 2) := by decide +kernel
theorem dX12_mended_16 : decode cX12_mended 16 = .ok (.ireturn, 1) := by decide +kernel
theorem dX12_mended_17 : decode cX12_mended 17 = .ok (.aload_n 0, 1) := by decide +kernel
theorem dX12_mended_18 : decode cX12_mended 18 = .ok (.getfield 19, 3) := by decide +kernel
theorem dX12_mended_21 : decode cX12_mended 21 = .ok (.sipush 406, 3) := by decide +kernel
theorem dX12_mended_24 : decode cX12_mended 24 = .ok (.iload_n 1, 1) := by decide +kernel
theorem dX12_mended_25 : decode cX12_mended 25 = .ok (.iload_n 2, 1) := by decide +kernel
theorem dX12_mended_26 : decode cX12_mended 26 = .ok (.iload_n 3, 1) := by decide +kernel
theorem dX12_mended_27 : decode cX12_mended 27 = .ok (.invokestatic 139, 3) := by decide +kernel
theorem dX12_mended_30 : decode cX12_mended 30 = .ok (.iadd, 1) := by decide +kernel
theorem dX12_mended_31 : decode cX12_mended 31 = .ok (.iaload, 1) := by decide +kernel
theorem dX12_mended_32 : decode cX12_mended 32 = .ok (.istore 5, 2) := by decide +kernel
theorem dX12_mended_34 : decode cX12_mended 34 = .ok (.iload 5, 2) := by decide +kernel
theorem dX12_mended_36 : decode cX12_mended 36 = .ok (.ifCond .ge 8, 3) := by decide +kernel
theorem dX12_mended_39 : decode cX12_mended 39 = .ok (.bipush (-9), 2) := by decide +kernel
theorem dX12_mended_41 : decode cX12_mended 41 = .ok (.goto 5, 3) := by decide +kernel
theorem dX12_mended_44 : decode cX12_mended 44 = .ok (.iload 5, 2) := by decide +kernel
theorem dX12_mended_46 : decode cX12_mended 46 = .ok (.ireturn, 1) := by decide +kernel
theorem dX12_best_0 : decode cX12_best 0 = .ok (.aload_n 0, 1) := by decide +kernel
theorem dX12_best_1 : decode cX12_best 1 = .ok (.iload_n 1, 1) := by decide +kernel
theorem dX12_best_2 : decode cX12_best 2 = .ok (.invokevirtual 162, 3) := by decide +kernel
theorem dX12_best_5 : decode cX12_best 5 = .ok (.ifCond .eq 25, 3) := by decide +kernel
theorem dX12_best_8 : decode cX12_best 8 = .ok (.aload_n 0, 1) := by decide +kernel
theorem dX12_best_9 : decode cX12_best 9 = .ok (.iload_n 2, 1) := by decide +kernel
theorem dX12_best_10 : decode cX12_best 10 = .ok (.invokevirtual 162, 3) := by decide +kernel
theorem dX12_best_13 : decode cX12_best 13 = .ok (.ifCond .eq 17, 3) := by decide +kernel
theorem dX12_best_16 : decode cX12_best 16 = .ok (.iload_n 1, 1) := by decide +kernel
theorem dX12_best_17 : decode cX12_best 17 = .ok (.iload_n 2, 1) := by decide +kernel
theorem dX12_best_18 : decode cX12_best 18 = .ok (.if_icmp .eq 12, 3) := by decide +kernel
theorem dX12_best_21 : decode cX12_best 21 = .ok (.aload_n 0, 1) := by decide +kernel
theorem dX12_best_22 : decode cX12_best 22 = .ok (.iload_n 1, 1) := by decide +kernel
theorem dX12_best_23 : decode cX12_best 23 = .ok (.iload_n 2, 1) := by decide +kernel
theorem dX12_best_24 : decode cX12_best 24 = .ok (.invokevirtual 155, 3) := by decide +kernel
theorem dX12_best_27 : decode cX12_best 27 = .ok (.goto 4, 3) := by decide +kernel
theorem dX12_best_30 : decode cX12_best 30 = .ok (.iconst (-1), 1) := by decide +kernel
theorem dX12_best_31 : decode cX12_best 31 = .ok (.ireturn, 1) := by decide +kernel
theorem dX12_node_0 : decode cX12_node 0 = .ok (.aload_n 0, 1) := by decide +kernel
theorem dX12_node_1 : decode cX12_node 1 = .ok (.iload_n 1, 1) := by decide +kernel
theorem dX12_node_2 : decode cX12_node 2 = .ok (.invokevirtual 162, 3) := by decide +kernel
theorem dX12_node_5 : decode cX12_node 5 = .ok (.ifCond .eq 12, 3) := by decide +kernel
theorem dX12_node_8 : decode cX12_node 8 = .ok (.iload_n 2, 1) := by decide +kernel
theorem dX12_node_9 : decode cX12_node 9 = .ok (.iconst 0, 1) := by decide +kernel
theorem dX12_node_10 : decode cX12_node 10 = .ok (.iconst 2, 1) := by decide +kernel
theorem dX12_node_11 : decode cX12_node 11 = .ok (.invokestatic 58, 3) := by decide +kernel
theorem dX12_node_14 : decode cX12_node 14 = .ok (.ifCond .ne 5, 3) := by decide +kernel
theorem dX12_node_17 : decode cX12_node 17 = .ok (.iconst (-1), 1) := by decide +kernel
theorem dX12_node_18 : decode cX12_node 18 = .ok (.ireturn, 1) := by decide +kernel
theorem dX12_node_19 : decode cX12_node 19 = .ok (.iconst 0, 1) := by decide +kernel
theorem dX12_node_20 : decode cX12_node 20 = .ok (.istore_n 3, 1) := by decide +kernel
theorem dX12_node_21 : decode cX12_node 21 = .ok (.iconst 0, 1) := by decide +kernel
theorem dX12_node_22 : decode cX12_node 22 = .ok (.istore 4, 2) := by decide +kernel
theorem dX12_node_24 : decode cX12_node 24 = .ok (.iload 4, 2) := by decide +kernel
theorem dX12_node_26 : decode cX12_node 26 = .ok (.aload_n 0, 1) := by decide +kernel
theorem dX12_node_27 : decode cX12_node 27 = .ok (.getfield 7, 3) := by decide +kernel
theorem dX12_node_30 : decode cX12_node 30 = .ok (.if_icmp .ge 27, 3) := by decide +kernel
theorem dX12_node_33 : decode cX12_node 33 = .ok (.iload_n 3, 1) := by decide +kernel
theorem dX12_node_34 : decode cX12_node 34 = .ok (.aload_n 0, 1) := by decide +kernel
theorem dX12_node_35 : decode cX12_node 35 = .ok (.iload_n 1, 1) := by decide +kernel
theorem dX12_node_36 : decode cX12_node 36 = .ok (.iload 4, 2) := by decide +kernel
theorem dX12_node_38 : decode cX12_node 38 = .ok (.invokevirtual 143, 3) := by decide +kernel
theorem dX12_node_41 : decode cX12_node 41 = .ok (.ifCond .le 7, 3) := by decide +kernel
theorem dX12_node_44 : decode cX12_node 44 = .ok (.iconst 1, 1) := by decide +kernel
theorem dX12_node_45 : decode cX12_node 45 = .ok (.goto 4, 3) := by decide +kernel
theorem dX12_node_48 : decode cX12_node 48 = .ok (.iconst 0, 1) := by decide +kernel
theorem dX12_node_49 : decode cX12_node 49 = .ok (.iadd, 1) := by decide +kernel
theorem dX12_node_50 : decode cX12_node 50 = .ok (.istore_n 3, 1) := by decide +kernel
theorem dX12_node_51 : decode cX12_node 51 = .ok (.iinc 4 1, 3) := by decide +kernel
theorem dX12_node_54 : decode cX12_node 54 = .ok (.goto (-30), 3) := by decide +kernel
theorem dX12_node_57 : decode cX12_node 57 = .ok (.iload_n 2, 1) := by decide +kernel
theorem dX12_node_58 : decode cX12_node 58 = .ok (.ifCond .ne 15, 3) := by decide +kernel
theorem dX12_node_61 : decode cX12_node 61 = .ok (.aload_n 0, 1) := by decide +kernel
theorem dX12_node_62 : decode cX12_node 62 = .ok (.getfield 19, 3) := by decide +kernel
theorem dX12_node_65 : decode cX12_node 65 = .ok (.bipush 106, 2) := by decide +kernel
theorem dX12_node_67 : decode cX12_node 67 = .ok (.iload_n 1, 1) := by decide +kernel
theorem dX12_node_68 : decode cX12_node 68 = .ok (.iadd, 1) := by decide +kernel
theorem dX12_node_69 : decode cX12_node 69 = .ok (.iaload, 1) := by decide +kernel
theorem dX12_node_70 : decode cX12_node 70 = .ok (.goto 21, 3) := by decide +kernel
theorem dX12_node_73 : decode cX12_node 73 = .ok (.iload_n 2, 1) := by decide +kernel
theorem dX12_node_74 : decode cX12_node 74 = .ok (.iconst 1, 1) := by decide +kernel
theorem dX12_node_75 : decode cX12_node 75 = .ok (.if_icmp .ne 15, 3) := by decide +kernel
theorem dX12_node_78 : decode cX12_node 78 = .ok (.aload_n 0, 1) := by decide +kernel
theorem dX12_node_79 : decode cX12_node 79 = .ok (.getfield 19, 3) := by decide +kernel
theorem dX12_node_82 : decode cX12_node 82 = .ok (.bipush 112, 2) := by decide +kernel
theorem dX12_node_84 : decode cX12_node 84 = .ok (.iload_n 1, 1) := by decide +kernel
theorem dX12_node_85 : decode cX12_node 85 = .ok (.iadd, 1) := by decide +kernel
theorem dX12_node_86 : decode cX12_node 86 = .ok (.iaload, 1) := by decide +kernel
theorem dX12_node_87 : decode cX12_node 87 = .ok (.goto 4, 3) := by decide +kernel
theorem dX12_node_90 : decode cX12_node 90 = .ok (.iload_n 3, 1) := by decide +kernel
theorem dX12_node_91 : decode cX12_node 91 = .ok (.ireturn, 1) := by decide +kernel
theorem dX12_used_0 : decode cX12_used 0 = .ok (.aload_n 0, 1) := by decide +kernel
theorem dX12_used_1 : decode cX12_used 1 = .ok (.iload_n 1, 1) := by decide +kernel
theorem dX12_used_2 : decode cX12_used 2 = .ok (.invokevirtual 135, 3) := by decide +kernel
theorem dX12_used_5 : decode cX12_used 5 = .ok (.istore_n 2, 1) := by decide +kernel
theorem dX12_used_6 : decode cX12_used 6 = .ok (.iload_n 2, 1) := by decide +kernel
theorem dX12_used_7 : decode cX12_used 7 = .ok (.bipush (-9), 2) := by decide +kernel
theorem dX12_used_9 : decode cX12_used 9 = .ok (.if_icmp .ne 7, 3) := by decide +kernel
theorem dX12_used_12 : decode cX12_used 12 = .ok (.iconst (-1), 1) := by decide +kernel
theorem dX12_used_13 : decode cX12_used 13 = .ok (.goto 13, 3) := by decide +kernel
theorem dX12_used_16 : decode cX12_used 16 = .ok (.aload_n 0, 1) := by decide +kernel
theorem dX12_used_17 : decode cX12_used 17 = .ok (.getfield 19, 3) := by decide +kernel
theorem dX12_used_20 : decode cX12_used 20 = .ok (.sipush 154, 3) := by decide +kernel
theorem dX12_used_23 : decode cX12_used 23 = .ok (.iload_n 2, 1) := by decide +kernel
theorem dX12_used_24 : decode cX12_used 24 = .ok (.iadd, 1) := by decide +kernel
theorem dX12_used_25 : decode cX12_used 25 = .ok (.iaload, 1) := by decide +kernel
theorem dX12_used_26 : decode cX12_used 26 = .ok (.ireturn, 1) := by decide +kernel
theorem dX12_way_0 : decode cX12_way 0 = .ok (.iload_n 1, 1) := by decide +kernel
theorem dX12_way_1 : decode cX12_way 1 = .ok (.iconst (-1), 1) := by decide +kernel
theorem dX12_way_2 : decode cX12_way 2 = .ok (.if_icmp .ge 5, 3) := by decide +kernel
theorem dX12_way_5 : decode cX12_way 5 = .ok (.iconst (-1), 1) := by decide +kernel
theorem dX12_way_6 : decode cX12_way 6 = .ok (.ireturn, 1) := by decide +kernel
theorem dX12_way_7 : decode cX12_way 7 = .ok (.aload_n 0, 1) := by decide +kernel
theorem dX12_way_8 : decode cX12_way 8 = .ok (.getfield 19, 3) := by decide +kernel
theorem dX12_way_11 : decode cX12_way 11 = .ok (.iconst 1, 1) := by decide +kernel
theorem dX12_way_12 : decode cX12_way 12 = .ok (.iaload, 1) := by decide +kernel
theorem dX12_way_13 : decode cX12_way 13 = .ok (.istore_n 2, 1) := by decide +kernel
theorem dX12_way_14 : decode cX12_way 14 = .ok (.iload_n 2, 1) := by decide +kernel
theorem dX12_way_15 : decode cX12_way 15 = .ok (.ifCond .lt 8, 3) := by decide +kernel
theorem dX12_way_18 : decode cX12_way 18 = .ok (.iload_n 1, 1) := by decide +kernel
theorem dX12_way_19 : decode cX12_way 19 = .ok (.iload_n 2, 1) := by decide +kernel
theorem dX12_way_20 : decode cX12_way 20 = .ok (.if_icmp .le 6, 3) := by decide +kernel
theorem dX12_way_23 : decode cX12_way 23 = .ok (.bipush (-9), 2) := by decide +kernel
theorem dX12_way_25 : decode cX12_way 25 = .ok (.ireturn, 1) := by decide +kernel
theorem dX12_way_26 : decode cX12_way 26 = .ok (.iload_n 1, 1) := by decide +kernel
theorem dX12_way_27 : decode cX12_way 27 = .ok (.ifCond .ge 7, 3) := by decide +kernel
theorem dX12_way_30 : decode cX12_way 30 = .ok (.iload_n 2, 1) := by decide +kernel
theorem dX12_way_31 : decode cX12_way 31 = .ok (.goto 11, 3) := by decide +kernel
theorem dX12_way_34 : decode cX12_way 34 = .ok (.aload_n 0, 1) := by decide +kernel
theorem dX12_way_35 : decode cX12_way 35 = .ok (.getfield 19, 3) := by decide +kernel
theorem dX12_way_38 : decode cX12_way 38 = .ok (.iconst 2, 1) := by decide +kernel
theorem dX12_way_39 : decode cX12_way 39 = .ok (.iload_n 1, 1) := by decide +kernel
theorem dX12_way_40 : decode cX12_way 40 = .ok (.iadd, 1) := by decide +kernel
theorem dX12_way_41 : decode cX12_way 41 = .ok (.iaload, 1) := by decide +kernel
theorem dX12_way_42 : decode cX12_way 42 = .ok (.ireturn, 1) := by decide +kernel
theorem dX12_laysPath_0 : decode cX12_laysPath 0 = .ok (.aload_n 0, 1) := by decide +kernel
theorem dX12_laysPath_1 : decode cX12_laysPath 1 = .ok (.getfield 39, 3) := by decide +kernel
theorem dX12_laysPath_4 : decode cX12_laysPath 4 = .ok (.iconst 0, 1) := by decide +kernel
theorem dX12_laysPath_5 : decode cX12_laysPath 5 = .ok (.iload_n 1, 1) := by decide +kernel
theorem dX12_laysPath_6 : decode cX12_laysPath 6 = .ok (.iastore, 1) := by decide +kernel
theorem dX12_laysPath_7 : decode cX12_laysPath 7 = .ok (.aload_n 0, 1) := by decide +kernel
theorem dX12_laysPath_8 : decode cX12_laysPath 8 = .ok (.iconst 1, 1) := by decide +kernel
theorem dX12_laysPath_9 : decode cX12_laysPath 9 = .ok (.putfield 182, 3) := by decide +kernel
theorem dX12_laysPath_12 : decode cX12_laysPath 12 = .ok (.aload_n 0, 1) := by decide +kernel
theorem dX12_laysPath_13 : decode cX12_laysPath 13 = .ok (.iconst 0, 1) := by decide +kernel
theorem dX12_laysPath_14 : decode cX12_laysPath 14 = .ok (.putfield 185, 3) := by decide +kernel
theorem dX12_laysPath_17 : decode cX12_laysPath 17 = .ok (.iconst 1, 1) := by decide +kernel
theorem dX12_laysPath_18 : decode cX12_laysPath 18 = .ok (.iload_n 1, 1) := by decide +kernel
theorem dX12_laysPath_19 : decode cX12_laysPath 19 = .ok (.ishl, 1) := by decide +kernel
theorem dX12_laysPath_20 : decode cX12_laysPath 20 = .ok (.istore_n 3, 1) := by decide +kernel
theorem dX12_laysPath_21 : decode cX12_laysPath 21 = .ok (.iload_n 1, 1) := by decide +kernel
theorem dX12_laysPath_22 : decode cX12_laysPath 22 = .ok (.istore 4, 2) := by decide +kernel
theorem dX12_laysPath_24 : decode cX12_laysPath 24 = .ok (.iload 4, 2) := by decide +kernel
theorem dX12_laysPath_26 : decode cX12_laysPath 26 = .ok (.iload_n 2, 1) := by decide +kernel
theorem dX12_laysPath_27 : decode cX12_laysPath 27 = .ok (.if_icmp .eq 82, 3) := by decide +kernel
theorem dX12_laysPath_30 : decode cX12_laysPath 30 = .ok (.aload_n 0, 1) := by decide +kernel
theorem dX12_laysPath_31 : decode cX12_laysPath 31 = .ok (.iload 4, 2) := by decide +kernel
theorem dX12_laysPath_33 : decode cX12_laysPath 33 = .ok (.iload_n 2, 1) := by decide +kernel
theorem dX12_laysPath_34 : decode cX12_laysPath 34 = .ok (.invokevirtual 155, 3) := by decide +kernel
theorem dX12_laysPath_37 : decode cX12_laysPath 37 = .ok (.istore 5, 2) := by decide +kernel
theorem dX12_laysPath_39 : decode cX12_laysPath 39 = .ok (.iload 5, 2) := by decide +kernel
theorem dX12_laysPath_41 : decode cX12_laysPath 41 = .ok (.bipush (-9), 2) := by decide +kernel
theorem dX12_laysPath_43 : decode cX12_laysPath 43 = .ok (.if_icmp .eq 12, 3) := by decide +kernel
theorem dX12_laysPath_46 : decode cX12_laysPath 46 = .ok (.iload_n 3, 1) := by decide +kernel
theorem dX12_laysPath_47 : decode cX12_laysPath 47 = .ok (.iload 5, 2) := by decide +kernel
theorem dX12_laysPath_49 : decode cX12_laysPath 49 = .ok (.invokestatic 188, 3) := by decide +kernel
theorem dX12_laysPath_52 : decode cX12_laysPath 52 = .ok (.ifCond .eq 5, 3) := by decide +kernel
theorem dX12_laysPath_55 : decode cX12_laysPath 55 = .ok (.iconst 0, 1) := by decide +kernel
theorem dX12_laysPath_56 : decode cX12_laysPath 56 = .ok (.ireturn, 1) := by decide +kernel
theorem dX12_laysPath_57 : decode cX12_laysPath 57 = .ok (.aload_n 0, 1) := by decide +kernel
theorem dX12_laysPath_58 : decode cX12_laysPath 58 = .ok (.dup, 1) := by decide +kernel
theorem dX12_laysPath_59 : decode cX12_laysPath 59 = .ok (.getfield 185, 3) := by decide +kernel
theorem dX12_laysPath_62 : decode cX12_laysPath 62 = .ok (.aload_n 0, 1) := by decide +kernel
theorem dX12_laysPath_63 : decode cX12_laysPath 63 = .ok (.iload 4, 2) := by decide +kernel
theorem dX12_laysPath_65 : decode cX12_laysPath 65 = .ok (.iload 5, 2) := by decide +kernel
theorem dX12_laysPath_67 : decode cX12_laysPath 67 = .ok (.invokevirtual 143, 3) := by decide +kernel
theorem dX12_laysPath_70 : decode cX12_laysPath 70 = .ok (.iadd, 1) := by decide +kernel
theorem dX12_laysPath_71 : decode cX12_laysPath 71 = .ok (.putfield 185, 3) := by decide +kernel
theorem dX12_laysPath_74 : decode cX12_laysPath 74 = .ok (.iload_n 3, 1) := by decide +kernel
theorem dX12_laysPath_75 : decode cX12_laysPath 75 = .ok (.iconst 1, 1) := by decide +kernel
theorem dX12_laysPath_76 : decode cX12_laysPath 76 = .ok (.iload 5, 2) := by decide +kernel
theorem dX12_laysPath_78 : decode cX12_laysPath 78 = .ok (.ishl, 1) := by decide +kernel
theorem dX12_laysPath_79 : decode cX12_laysPath 79 = .ok (.ior, 1) := by decide +kernel
theorem dX12_laysPath_80 : decode cX12_laysPath 80 = .ok (.istore_n 3, 1) := by decide +kernel
theorem dX12_laysPath_81 : decode cX12_laysPath 81 = .ok (.aload_n 0, 1) := by decide +kernel
theorem dX12_laysPath_82 : decode cX12_laysPath 82 = .ok (.getfield 39, 3) := by decide +kernel
theorem dX12_laysPath_85 : decode cX12_laysPath 85 = .ok (.aload_n 0, 1) := by decide +kernel
theorem dX12_laysPath_86 : decode cX12_laysPath 86 = .ok (.getfield 182, 3) := by decide +kernel
theorem dX12_laysPath_89 : decode cX12_laysPath 89 = .ok (.iload 5, 2) := by decide +kernel
theorem dX12_laysPath_91 : decode cX12_laysPath 91 = .ok (.iastore, 1) := by decide +kernel
theorem dX12_laysPath_92 : decode cX12_laysPath 92 = .ok (.aload_n 0, 1) := by decide +kernel
theorem dX12_laysPath_93 : decode cX12_laysPath 93 = .ok (.dup, 1) := by decide +kernel
theorem dX12_laysPath_94 : decode cX12_laysPath 94 = .ok (.getfield 182, 3) := by decide +kernel
theorem dX12_laysPath_97 : decode cX12_laysPath 97 = .ok (.iconst 1, 1) := by decide +kernel
theorem dX12_laysPath_98 : decode cX12_laysPath 98 = .ok (.iadd, 1) := by decide +kernel
theorem dX12_laysPath_99 : decode cX12_laysPath 99 = .ok (.putfield 182, 3) := by decide +kernel
theorem dX12_laysPath_102 : decode cX12_laysPath 102 = .ok (.iload 5, 2) := by decide +kernel
theorem dX12_laysPath_104 : decode cX12_laysPath 104 = .ok (.istore 4, 2) := by decide +kernel
theorem dX12_laysPath_106 : decode cX12_laysPath 106 = .ok (.goto (-82), 3) := by decide +kernel
theorem dX12_laysPath_109 : decode cX12_laysPath 109 = .ok (.iconst 1, 1) := by decide +kernel
theorem dX12_laysPath_110 : decode cX12_laysPath 110 = .ok (.ireturn, 1) := by decide +kernel
theorem dX12_path_0 : decode cX12_path 0 = .ok (.aload_n 0, 1) := by decide +kernel
theorem dX12_path_1 : decode cX12_path 1 = .ok (.iload_n 1, 1) := by decide +kernel
theorem dX12_path_2 : decode cX12_path 2 = .ok (.invokevirtual 162, 3) := by decide +kernel
theorem dX12_path_5 : decode cX12_path 5 = .ok (.ifCond .eq 21, 3) := by decide +kernel
theorem dX12_path_8 : decode cX12_path 8 = .ok (.aload_n 0, 1) := by decide +kernel
theorem dX12_path_9 : decode cX12_path 9 = .ok (.iload_n 2, 1) := by decide +kernel
theorem dX12_path_10 : decode cX12_path 10 = .ok (.invokevirtual 162, 3) := by decide +kernel
theorem dX12_path_13 : decode cX12_path 13 = .ok (.ifCond .eq 13, 3) := by decide +kernel
theorem dX12_path_16 : decode cX12_path 16 = .ok (.iload_n 1, 1) := by decide +kernel
theorem dX12_path_17 : decode cX12_path 17 = .ok (.iload_n 2, 1) := by decide +kernel
theorem dX12_path_18 : decode cX12_path 18 = .ok (.if_icmp .eq 8, 3) := by decide +kernel
theorem dX12_path_21 : decode cX12_path 21 = .ok (.iload_n 3, 1) := by decide +kernel
theorem dX12_path_22 : decode cX12_path 22 = .ok (.iconst (-1), 1) := by decide +kernel
theorem dX12_path_23 : decode cX12_path 23 = .ok (.if_icmp .ge 5, 3) := by decide +kernel
theorem dX12_path_26 : decode cX12_path 26 = .ok (.iconst (-1), 1) := by decide +kernel
theorem dX12_path_27 : decode cX12_path 27 = .ok (.ireturn, 1) := by decide +kernel
theorem dX12_path_28 : decode cX12_path 28 = .ok (.aload_n 0, 1) := by decide +kernel
theorem dX12_path_29 : decode cX12_path 29 = .ok (.iload_n 1, 1) := by decide +kernel
theorem dX12_path_30 : decode cX12_path 30 = .ok (.iload_n 2, 1) := by decide +kernel
theorem dX12_path_31 : decode cX12_path 31 = .ok (.invokevirtual 191, 3) := by decide +kernel
theorem dX12_path_34 : decode cX12_path 34 = .ok (.pop, 1) := by decide +kernel
theorem dX12_path_35 : decode cX12_path 35 = .ok (.iload_n 3, 1) := by decide +kernel
theorem dX12_path_36 : decode cX12_path 36 = .ok (.ifCond .ge 10, 3) := by decide +kernel
theorem dX12_path_39 : decode cX12_path 39 = .ok (.aload_n 0, 1) := by decide +kernel
theorem dX12_path_40 : decode cX12_path 40 = .ok (.getfield 182, 3) := by decide +kernel
theorem dX12_path_43 : decode cX12_path 43 = .ok (.goto 22, 3) := by decide +kernel
theorem dX12_path_46 : decode cX12_path 46 = .ok (.iload_n 3, 1) := by decide +kernel
theorem dX12_path_47 : decode cX12_path 47 = .ok (.aload_n 0, 1) := by decide +kernel
theorem dX12_path_48 : decode cX12_path 48 = .ok (.getfield 182, 3) := by decide +kernel
theorem dX12_path_51 : decode cX12_path 51 = .ok (.if_icmp .ge 12, 3) := by decide +kernel
theorem dX12_path_54 : decode cX12_path 54 = .ok (.aload_n 0, 1) := by decide +kernel
theorem dX12_path_55 : decode cX12_path 55 = .ok (.getfield 39, 3) := by decide +kernel
theorem dX12_path_58 : decode cX12_path 58 = .ok (.iload_n 3, 1) := by decide +kernel
theorem dX12_path_59 : decode cX12_path 59 = .ok (.iaload, 1) := by decide +kernel
theorem dX12_path_60 : decode cX12_path 60 = .ok (.goto 5, 3) := by decide +kernel
theorem dX12_path_63 : decode cX12_path 63 = .ok (.bipush (-9), 2) := by decide +kernel
theorem dX12_path_65 : decode cX12_path 65 = .ok (.ireturn, 1) := by decide +kernel
theorem dX12_astray_0 : decode cX12_astray 0 = .ok (.aload_n 0, 1) := by decide +kernel
theorem dX12_astray_1 : decode cX12_astray 1 = .ok (.iload_n 1, 1) := by decide +kernel
theorem dX12_astray_2 : decode cX12_astray 2 = .ok (.invokevirtual 162, 3) := by decide +kernel
theorem dX12_astray_5 : decode cX12_astray 5 = .ok (.ifCond .ne 5, 3) := by decide +kernel
theorem dX12_astray_8 : decode cX12_astray 8 = .ok (.iconst (-1), 1) := by decide +kernel
theorem dX12_astray_9 : decode cX12_astray 9 = .ok (.ireturn, 1) := by decide +kernel
theorem dX12_astray_10 : decode cX12_astray 10 = .ok (.iconst 0, 1) := by decide +kernel
theorem dX12_astray_11 : decode cX12_astray 11 = .ok (.istore_n 2, 1) := by decide +kernel
theorem dX12_astray_12 : decode cX12_astray 12 = .ok (.iconst 0, 1) := by decide +kernel
theorem dX12_astray_13 : decode cX12_astray 13 = .ok (.istore_n 3, 1) := by decide +kernel
theorem dX12_astray_14 : decode cX12_astray 14 = .ok (.iload_n 3, 1) := by decide +kernel
theorem dX12_astray_15 : decode cX12_astray 15 = .ok (.aload_n 0, 1) := by decide +kernel
theorem dX12_astray_16 : decode cX12_astray 16 = .ok (.getfield 7, 3) := by decide +kernel
theorem dX12_astray_19 : decode cX12_astray 19 = .ok (.if_icmp .ge 31, 3) := by decide +kernel
theorem dX12_astray_22 : decode cX12_astray 22 = .ok (.iload_n 2, 1) := by decide +kernel
theorem dX12_astray_23 : decode cX12_astray 23 = .ok (.iload_n 3, 1) := by decide +kernel
theorem dX12_astray_24 : decode cX12_astray 24 = .ok (.iload_n 1, 1) := by decide +kernel
theorem dX12_astray_25 : decode cX12_astray 25 = .ok (.if_icmp .eq 16, 3) := by decide +kernel
theorem dX12_astray_28 : decode cX12_astray 28 = .ok (.aload_n 0, 1) := by decide +kernel
theorem dX12_astray_29 : decode cX12_astray 29 = .ok (.iload_n 3, 1) := by decide +kernel
theorem dX12_astray_30 : decode cX12_astray 30 = .ok (.iload_n 1, 1) := by decide +kernel
theorem dX12_astray_31 : decode cX12_astray 31 = .ok (.invokevirtual 191, 3) := by decide +kernel
theorem dX12_astray_34 : decode cX12_astray 34 = .ok (.ifCond .ne 7, 3) := by decide +kernel
theorem dX12_astray_37 : decode cX12_astray 37 = .ok (.iconst 1, 1) := by decide +kernel
theorem dX12_astray_38 : decode cX12_astray 38 = .ok (.goto 4, 3) := by decide +kernel
theorem dX12_astray_41 : decode cX12_astray 41 = .ok (.iconst 0, 1) := by decide +kernel
theorem dX12_astray_42 : decode cX12_astray 42 = .ok (.iadd, 1) := by decide +kernel
theorem dX12_astray_43 : decode cX12_astray 43 = .ok (.istore_n 2, 1) := by decide +kernel
theorem dX12_astray_44 : decode cX12_astray 44 = .ok (.iinc 3 1, 3) := by decide +kernel
theorem dX12_astray_47 : decode cX12_astray 47 = .ok (.goto (-33), 3) := by decide +kernel
theorem dX12_astray_50 : decode cX12_astray 50 = .ok (.iload_n 2, 1) := by decide +kernel
theorem dX12_astray_51 : decode cX12_astray 51 = .ok (.ireturn, 1) := by decide +kernel
theorem dX12_laysFar_0 : decode cX12_laysFar 0 = .ok (.iconst 0, 1) := by decide +kernel
theorem dX12_laysFar_1 : decode cX12_laysFar 1 = .ok (.istore_n 2, 1) := by decide +kernel
theorem dX12_laysFar_2 : decode cX12_laysFar 2 = .ok (.iload_n 2, 1) := by decide +kernel
theorem dX12_laysFar_3 : decode cX12_laysFar 3 = .ok (.aload_n 0, 1) := by decide +kernel
theorem dX12_laysFar_4 : decode cX12_laysFar 4 = .ok (.getfield 7, 3) := by decide +kernel
theorem dX12_laysFar_7 : decode cX12_laysFar 7 = .ok (.if_icmp .ge 84, 3) := by decide +kernel
theorem dX12_laysFar_10 : decode cX12_laysFar 10 = .ok (.iconst 0, 1) := by decide +kernel
theorem dX12_laysFar_11 : decode cX12_laysFar 11 = .ok (.istore_n 3, 1) := by decide +kernel
theorem dX12_laysFar_12 : decode cX12_laysFar 12 = .ok (.iload_n 3, 1) := by decide +kernel
theorem dX12_laysFar_13 : decode cX12_laysFar 13 = .ok (.aload_n 0, 1) := by decide +kernel
theorem dX12_laysFar_14 : decode cX12_laysFar 14 = .ok (.getfield 7, 3) := by decide +kernel
theorem dX12_laysFar_17 : decode cX12_laysFar 17 = .ok (.if_icmp .ge 68, 3) := by decide +kernel
theorem dX12_laysFar_20 : decode cX12_laysFar 20 = .ok (.iload_n 2, 1) := by decide +kernel
theorem dX12_laysFar_21 : decode cX12_laysFar 21 = .ok (.iload_n 3, 1) := by decide +kernel
theorem dX12_laysFar_22 : decode cX12_laysFar 22 = .ok (.if_icmp .eq 12, 3) := by decide +kernel
theorem dX12_laysFar_25 : decode cX12_laysFar 25 = .ok (.iload_n 2, 1) := by decide +kernel
theorem dX12_laysFar_26 : decode cX12_laysFar 26 = .ok (.iload_n 3, 1) := by decide +kernel
theorem dX12_laysFar_27 : decode cX12_laysFar 27 = .ok (.invokestatic 62, 3) := by decide +kernel
theorem dX12_laysFar_30 : decode cX12_laysFar 30 = .ok (.iload_n 1, 1) := by decide +kernel
theorem dX12_laysFar_31 : decode cX12_laysFar 31 = .ok (.if_icmp .ne 7, 3) := by decide +kernel
theorem dX12_laysFar_34 : decode cX12_laysFar 34 = .ok (.iconst 0, 1) := by decide +kernel
theorem dX12_laysFar_35 : decode cX12_laysFar 35 = .ok (.goto 9, 3) := by decide +kernel
theorem dX12_laysFar_38 : decode cX12_laysFar 38 = .ok (.aload_n 0, 1) := by decide +kernel
theorem dX12_laysFar_39 : decode cX12_laysFar 39 = .ok (.iload_n 2, 1) := by decide +kernel
theorem dX12_laysFar_40 : decode cX12_laysFar 40 = .ok (.iload_n 3, 1) := by decide +kernel
theorem dX12_laysFar_41 : decode cX12_laysFar 41 = .ok (.invokevirtual 143, 3) := by decide +kernel
theorem dX12_laysFar_44 : decode cX12_laysFar 44 = .ok (.istore 4, 2) := by decide +kernel
theorem dX12_laysFar_46 : decode cX12_laysFar 46 = .ok (.aload_n 0, 1) := by decide +kernel
theorem dX12_laysFar_47 : decode cX12_laysFar 47 = .ok (.getfield 42, 3) := by decide +kernel
theorem dX12_laysFar_50 : decode cX12_laysFar 50 = .ok (.bipush 6, 2) := by decide +kernel
theorem dX12_laysFar_52 : decode cX12_laysFar 52 = .ok (.iload_n 2, 1) := by decide +kernel
theorem dX12_laysFar_53 : decode cX12_laysFar 53 = .ok (.imul, 1) := by decide +kernel
theorem dX12_laysFar_54 : decode cX12_laysFar 54 = .ok (.iload_n 3, 1) := by decide +kernel
theorem dX12_laysFar_55 : decode cX12_laysFar 55 = .ok (.iadd, 1) := by decide +kernel
theorem dX12_laysFar_56 : decode cX12_laysFar 56 = .ok (.iload_n 2, 1) := by decide +kernel
theorem dX12_laysFar_57 : decode cX12_laysFar 57 = .ok (.iload_n 3, 1) := by decide +kernel
theorem dX12_laysFar_58 : decode cX12_laysFar 58 = .ok (.if_icmp .ne 7, 3) := by decide +kernel
theorem dX12_laysFar_61 : decode cX12_laysFar 61 = .ok (.iconst 0, 1) := by decide +kernel
theorem dX12_laysFar_62 : decode cX12_laysFar 62 = .ok (.goto 16, 3) := by decide +kernel
theorem dX12_laysFar_65 : decode cX12_laysFar 65 = .ok (.iload 4, 2) := by decide +kernel
theorem dX12_laysFar_67 : decode cX12_laysFar 67 = .ok (.ifCond .le 8, 3) := by decide +kernel
theorem dX12_laysFar_70 : decode cX12_laysFar 70 = .ok (.iload 4, 2) := by decide +kernel
theorem dX12_laysFar_72 : decode cX12_laysFar 72 = .ok (.goto 6, 3) := by decide +kernel
theorem dX12_laysFar_75 : decode cX12_laysFar 75 = .ok (.sipush 1000, 3) := by decide +kernel
theorem dX12_laysFar_78 : decode cX12_laysFar 78 = .ok (.iastore, 1) := by decide +kernel
theorem dX12_laysFar_79 : decode cX12_laysFar 79 = .ok (.iinc 3 1, 3) := by decide +kernel
theorem dX12_laysFar_82 : decode cX12_laysFar 82 = .ok (.goto (-70), 3) := by decide +kernel
theorem dX12_laysFar_85 : decode cX12_laysFar 85 = .ok (.iinc 2 1, 3) := by decide +kernel
theorem dX12_laysFar_88 : decode cX12_laysFar 88 = .ok (.goto (-86), 3) := by decide +kernel
theorem dX12_laysFar_91 : decode cX12_laysFar 91 = .ok (.iconst 0, 1) := by decide +kernel
theorem dX12_laysFar_92 : decode cX12_laysFar 92 = .ok (.istore_n 2, 1) := by decide +kernel
theorem dX12_laysFar_93 : decode cX12_laysFar 93 = .ok (.iload_n 2, 1) := by decide +kernel
theorem dX12_laysFar_94 : decode cX12_laysFar 94 = .ok (.aload_n 0, 1) := by decide +kernel
theorem dX12_laysFar_95 : decode cX12_laysFar 95 = .ok (.getfield 7, 3) := by decide +kernel
theorem dX12_laysFar_98 : decode cX12_laysFar 98 = .ok (.if_icmp .ge 115, 3) := by decide +kernel
theorem dX12_laysFar_101 : decode cX12_laysFar 101 = .ok (.iconst 0, 1) := by decide +kernel
theorem dX12_laysFar_102 : decode cX12_laysFar 102 = .ok (.istore_n 3, 1) := by decide +kernel
theorem dX12_laysFar_103 : decode cX12_laysFar 103 = .ok (.iload_n 3, 1) := by decide +kernel
theorem dX12_laysFar_104 : decode cX12_laysFar 104 = .ok (.aload_n 0, 1) := by decide +kernel
theorem dX12_laysFar_105 : decode cX12_laysFar 105 = .ok (.getfield 7, 3) := by decide +kernel
theorem dX12_laysFar_108 : decode cX12_laysFar 108 = .ok (.if_icmp .ge 99, 3) := by decide +kernel
theorem dX12_laysFar_111 : decode cX12_laysFar 111 = .ok (.iconst 0, 1) := by decide +kernel
theorem dX12_laysFar_112 : decode cX12_laysFar 112 = .ok (.istore 4, 2) := by decide +kernel
theorem dX12_laysFar_114 : decode cX12_laysFar 114 = .ok (.iload 4, 2) := by decide +kernel
theorem dX12_laysFar_116 : decode cX12_laysFar 116 = .ok (.aload_n 0, 1) := by decide +kernel
theorem dX12_laysFar_117 : decode cX12_laysFar 117 = .ok (.getfield 7, 3) := by decide +kernel
theorem dX12_laysFar_120 : decode cX12_laysFar 120 = .ok (.if_icmp .ge 81, 3) := by decide +kernel
theorem dX12_laysFar_123 : decode cX12_laysFar 123 = .ok (.aload_n 0, 1) := by decide +kernel
theorem dX12_laysFar_124 : decode cX12_laysFar 124 = .ok (.getfield 42, 3) := by decide +kernel
theorem dX12_laysFar_127 : decode cX12_laysFar 127 = .ok (.bipush 6, 2) := by decide +kernel
theorem dX12_laysFar_129 : decode cX12_laysFar 129 = .ok (.iload_n 3, 1) := by decide +kernel
theorem dX12_laysFar_130 : decode cX12_laysFar 130 = .ok (.imul, 1) := by decide +kernel
theorem dX12_laysFar_131 : decode cX12_laysFar 131 = .ok (.iload_n 2, 1) := by decide +kernel
theorem dX12_laysFar_132 : decode cX12_laysFar 132 = .ok (.iadd, 1) := by decide +kernel
theorem dX12_laysFar_133 : decode cX12_laysFar 133 = .ok (.iaload, 1) := by decide +kernel
theorem dX12_laysFar_134 : decode cX12_laysFar 134 = .ok (.aload_n 0, 1) := by decide +kernel
theorem dX12_laysFar_135 : decode cX12_laysFar 135 = .ok (.getfield 42, 3) := by decide +kernel
theorem dX12_laysFar_138 : decode cX12_laysFar 138 = .ok (.bipush 6, 2) := by decide +kernel
theorem dX12_laysFar_140 : decode cX12_laysFar 140 = .ok (.iload_n 2, 1) := by decide +kernel
theorem dX12_laysFar_141 : decode cX12_laysFar 141 = .ok (.imul, 1) := by decide +kernel
theorem dX12_laysFar_142 : decode cX12_laysFar 142 = .ok (.iload 4, 2) := by decide +kernel
theorem dX12_laysFar_144 : decode cX12_laysFar 144 = .ok (.iadd, 1) := by decide +kernel
theorem dX12_laysFar_145 : decode cX12_laysFar 145 = .ok (.iaload, 1) := by decide +kernel
theorem dX12_laysFar_146 : decode cX12_laysFar 146 = .ok (.iadd, 1) := by decide +kernel
theorem dX12_laysFar_147 : decode cX12_laysFar 147 = .ok (.istore 5, 2) := by decide +kernel
theorem dX12_laysFar_149 : decode cX12_laysFar 149 = .ok (.aload_n 0, 1) := by decide +kernel
theorem dX12_laysFar_150 : decode cX12_laysFar 150 = .ok (.getfield 42, 3) := by decide +kernel
theorem dX12_laysFar_153 : decode cX12_laysFar 153 = .ok (.bipush 6, 2) := by decide +kernel
theorem dX12_laysFar_155 : decode cX12_laysFar 155 = .ok (.iload_n 3, 1) := by decide +kernel
theorem dX12_laysFar_156 : decode cX12_laysFar 156 = .ok (.imul, 1) := by decide +kernel
theorem dX12_laysFar_157 : decode cX12_laysFar 157 = .ok (.iload 4, 2) := by decide +kernel
theorem dX12_laysFar_159 : decode cX12_laysFar 159 = .ok (.iadd, 1) := by decide +kernel
theorem dX12_laysFar_160 : decode cX12_laysFar 160 = .ok (.iload 5, 2) := by decide +kernel
theorem dX12_laysFar_162 : decode cX12_laysFar 162 = .ok (.aload_n 0, 1) := by decide +kernel
theorem dX12_laysFar_163 : decode cX12_laysFar 163 = .ok (.getfield 42, 3) := by decide +kernel
theorem dX12_laysFar_166 : decode cX12_laysFar 166 = .ok (.bipush 6, 2) := by decide +kernel
theorem dX12_laysFar_168 : decode cX12_laysFar 168 = .ok (.iload_n 3, 1) := by decide +kernel
theorem dX12_laysFar_169 : decode cX12_laysFar 169 = .ok (.imul, 1) := by decide +kernel
theorem dX12_laysFar_170 : decode cX12_laysFar 170 = .ok (.iload 4, 2) := by decide +kernel
theorem dX12_laysFar_172 : decode cX12_laysFar 172 = .ok (.iadd, 1) := by decide +kernel
theorem dX12_laysFar_173 : decode cX12_laysFar 173 = .ok (.iaload, 1) := by decide +kernel
theorem dX12_laysFar_174 : decode cX12_laysFar 174 = .ok (.if_icmp .ge 8, 3) := by decide +kernel
theorem dX12_laysFar_177 : decode cX12_laysFar 177 = .ok (.iload 5, 2) := by decide +kernel
theorem dX12_laysFar_179 : decode cX12_laysFar 179 = .ok (.goto 15, 3) := by decide +kernel
theorem dX12_laysFar_182 : decode cX12_laysFar 182 = .ok (.aload_n 0, 1) := by decide +kernel
theorem dX12_laysFar_183 : decode cX12_laysFar 183 = .ok (.getfield 42, 3) := by decide +kernel
theorem dX12_laysFar_186 : decode cX12_laysFar 186 = .ok (.bipush 6, 2) := by decide +kernel
theorem dX12_laysFar_188 : decode cX12_laysFar 188 = .ok (.iload_n 3, 1) := by decide +kernel
theorem dX12_laysFar_189 : decode cX12_laysFar 189 = .ok (.imul, 1) := by decide +kernel
theorem dX12_laysFar_190 : decode cX12_laysFar 190 = .ok (.iload 4, 2) := by decide +kernel
theorem dX12_laysFar_192 : decode cX12_laysFar 192 = .ok (.iadd, 1) := by decide +kernel
theorem dX12_laysFar_193 : decode cX12_laysFar 193 = .ok (.iaload, 1) := by decide +kernel
theorem dX12_laysFar_194 : decode cX12_laysFar 194 = .ok (.iastore, 1) := by decide +kernel
theorem dX12_laysFar_195 : decode cX12_laysFar 195 = .ok (.iinc 4 1, 3) := by decide +kernel
theorem dX12_laysFar_198 : decode cX12_laysFar 198 = .ok (.goto (-84), 3) := by decide +kernel
theorem dX12_laysFar_201 : decode cX12_laysFar 201 = .ok (.iinc 3 1, 3) := by decide +kernel
theorem dX12_laysFar_204 : decode cX12_laysFar 204 = .ok (.goto (-101), 3) := by decide +kernel
theorem dX12_laysFar_207 : decode cX12_laysFar 207 = .ok (.iinc 2 1, 3) := by decide +kernel
theorem dX12_laysFar_210 : decode cX12_laysFar 210 = .ok (.goto (-117), 3) := by decide +kernel
theorem dX12_laysFar_213 : decode cX12_laysFar 213 = .ok (.return_, 1) := by decide +kernel
theorem dX12_farOf_0 : decode cX12_farOf 0 = .ok (.aload_n 0, 1) := by decide +kernel
theorem dX12_farOf_1 : decode cX12_farOf 1 = .ok (.getfield 42, 3) := by decide +kernel
theorem dX12_farOf_4 : decode cX12_farOf 4 = .ok (.bipush 6, 2) := by decide +kernel
theorem dX12_farOf_6 : decode cX12_farOf 6 = .ok (.iload_n 1, 1) := by decide +kernel
theorem dX12_farOf_7 : decode cX12_farOf 7 = .ok (.imul, 1) := by decide +kernel
theorem dX12_farOf_8 : decode cX12_farOf 8 = .ok (.iload_n 2, 1) := by decide +kernel
theorem dX12_farOf_9 : decode cX12_farOf 9 = .ok (.iadd, 1) := by decide +kernel
theorem dX12_farOf_10 : decode cX12_farOf 10 = .ok (.iaload, 1) := by decide +kernel
theorem dX12_farOf_11 : decode cX12_farOf 11 = .ok (.istore_n 3, 1) := by decide +kernel
theorem dX12_farOf_12 : decode cX12_farOf 12 = .ok (.iload_n 3, 1) := by decide +kernel
theorem dX12_farOf_13 : decode cX12_farOf 13 = .ok (.sipush 1000, 3) := by decide +kernel
theorem dX12_farOf_16 : decode cX12_farOf 16 = .ok (.if_icmp .lt 8, 3) := by decide +kernel
theorem dX12_farOf_19 : decode cX12_farOf 19 = .ok (.bipush (-9), 2) := by decide +kernel
theorem dX12_farOf_21 : decode cX12_farOf 21 = .ok (.goto 4, 3) := by decide +kernel
theorem dX12_farOf_24 : decode cX12_farOf 24 = .ok (.iload_n 3, 1) := by decide +kernel
theorem dX12_farOf_25 : decode cX12_farOf 25 = .ok (.ireturn, 1) := by decide +kernel
theorem dX12_least_0 : decode cX12_least 0 = .ok (.aload_n 0, 1) := by decide +kernel
theorem dX12_least_1 : decode cX12_least 1 = .ok (.iload_n 1, 1) := by decide +kernel
theorem dX12_least_2 : decode cX12_least 2 = .ok (.invokevirtual 162, 3) := by decide +kernel
theorem dX12_least_5 : decode cX12_least 5 = .ok (.ifCond .eq 11, 3) := by decide +kernel
theorem dX12_least_8 : decode cX12_least 8 = .ok (.aload_n 0, 1) := by decide +kernel
theorem dX12_least_9 : decode cX12_least 9 = .ok (.iload_n 2, 1) := by decide +kernel
theorem dX12_least_10 : decode cX12_least 10 = .ok (.invokevirtual 162, 3) := by decide +kernel
theorem dX12_least_13 : decode cX12_least 13 = .ok (.ifCond .ne 5, 3) := by decide +kernel
theorem dX12_least_16 : decode cX12_least 16 = .ok (.iconst (-1), 1) := by decide +kernel
theorem dX12_least_17 : decode cX12_least 17 = .ok (.ireturn, 1) := by decide +kernel
theorem dX12_least_18 : decode cX12_least 18 = .ok (.aload_n 0, 1) := by decide +kernel
theorem dX12_least_19 : decode cX12_least 19 = .ok (.bipush (-9), 2) := by decide +kernel
theorem dX12_least_21 : decode cX12_least 21 = .ok (.invokevirtual 194, 3) := by decide +kernel
theorem dX12_least_24 : decode cX12_least 24 = .ok (.aload_n 0, 1) := by decide +kernel
theorem dX12_least_25 : decode cX12_least 25 = .ok (.iload_n 1, 1) := by decide +kernel
theorem dX12_least_26 : decode cX12_least 26 = .ok (.iload_n 2, 1) := by decide +kernel
theorem dX12_least_27 : decode cX12_least 27 = .ok (.invokevirtual 198, 3) := by decide +kernel
theorem dX12_least_30 : decode cX12_least 30 = .ok (.ireturn, 1) := by decide +kernel
theorem dX12_right_0 : decode cX12_right 0 = .ok (.aload_n 0, 1) := by decide +kernel
theorem dX12_right_1 : decode cX12_right 1 = .ok (.bipush (-9), 2) := by decide +kernel
theorem dX12_right_3 : decode cX12_right 3 = .ok (.invokevirtual 194, 3) := by decide +kernel
theorem dX12_right_6 : decode cX12_right 6 = .ok (.iconst 0, 1) := by decide +kernel
theorem dX12_right_7 : decode cX12_right 7 = .ok (.istore_n 1, 1) := by decide +kernel
theorem dX12_right_8 : decode cX12_right 8 = .ok (.iconst 0, 1) := by decide +kernel
theorem dX12_right_9 : decode cX12_right 9 = .ok (.istore_n 2, 1) := by decide +kernel
theorem dX12_right_10 : decode cX12_right 10 = .ok (.iload_n 2, 1) := by decide +kernel
theorem dX12_right_11 : decode cX12_right 11 = .ok (.aload_n 0, 1) := by decide +kernel
theorem dX12_right_12 : decode cX12_right 12 = .ok (.getfield 7, 3) := by decide +kernel
theorem dX12_right_15 : decode cX12_right 15 = .ok (.if_icmp .ge 60, 3) := by decide +kernel
theorem dX12_right_18 : decode cX12_right 18 = .ok (.iconst 0, 1) := by decide +kernel
theorem dX12_right_19 : decode cX12_right 19 = .ok (.istore_n 3, 1) := by decide +kernel
theorem dX12_right_20 : decode cX12_right 20 = .ok (.iload_n 3, 1) := by decide +kernel
theorem dX12_right_21 : decode cX12_right 21 = .ok (.aload_n 0, 1) := by decide +kernel
theorem dX12_right_22 : decode cX12_right 22 = .ok (.getfield 7, 3) := by decide +kernel
theorem dX12_right_25 : decode cX12_right 25 = .ok (.if_icmp .ge 44, 3) := by decide +kernel
theorem dX12_right_28 : decode cX12_right 28 = .ok (.iload_n 1, 1) := by decide +kernel
theorem dX12_right_29 : decode cX12_right 29 = .ok (.iload_n 2, 1) := by decide +kernel
theorem dX12_right_30 : decode cX12_right 30 = .ok (.iload_n 3, 1) := by decide +kernel
theorem dX12_right_31 : decode cX12_right 31 = .ok (.if_icmp .eq 29, 3) := by decide +kernel
theorem dX12_right_34 : decode cX12_right 34 = .ok (.aload_n 0, 1) := by decide +kernel
theorem dX12_right_35 : decode cX12_right 35 = .ok (.iload_n 2, 1) := by decide +kernel
theorem dX12_right_36 : decode cX12_right 36 = .ok (.iload_n 3, 1) := by decide +kernel
theorem dX12_right_37 : decode cX12_right 37 = .ok (.invokevirtual 191, 3) := by decide +kernel
theorem dX12_right_40 : decode cX12_right 40 = .ok (.ifCond .eq 20, 3) := by decide +kernel
theorem dX12_right_43 : decode cX12_right 43 = .ok (.aload_n 0, 1) := by decide +kernel
theorem dX12_right_44 : decode cX12_right 44 = .ok (.getfield 185, 3) := by decide +kernel
theorem dX12_right_47 : decode cX12_right 47 = .ok (.aload_n 0, 1) := by decide +kernel
theorem dX12_right_48 : decode cX12_right 48 = .ok (.iload_n 2, 1) := by decide +kernel
theorem dX12_right_49 : decode cX12_right 49 = .ok (.iload_n 3, 1) := by decide +kernel
theorem dX12_right_50 : decode cX12_right 50 = .ok (.invokevirtual 198, 3) := by decide +kernel
theorem dX12_right_53 : decode cX12_right 53 = .ok (.if_icmp .ne 7, 3) := by decide +kernel
theorem dX12_right_56 : decode cX12_right 56 = .ok (.iconst 1, 1) := by decide +kernel
theorem dX12_right_57 : decode cX12_right 57 = .ok (.goto 4, 3) := by decide +kernel
theorem dX12_right_60 : decode cX12_right 60 = .ok (.iconst 0, 1) := by decide +kernel
theorem dX12_right_61 : decode cX12_right 61 = .ok (.iadd, 1) := by decide +kernel
theorem dX12_right_62 : decode cX12_right 62 = .ok (.istore_n 1, 1) := by decide +kernel
theorem dX12_right_63 : decode cX12_right 63 = .ok (.iinc 3 1, 3) := by decide +kernel
theorem dX12_right_66 : decode cX12_right 66 = .ok (.goto (-46), 3) := by decide +kernel
theorem dX12_right_69 : decode cX12_right 69 = .ok (.iinc 2 1, 3) := by decide +kernel
theorem dX12_right_72 : decode cX12_right 72 = .ok (.goto (-62), 3) := by decide +kernel
theorem dX12_right_75 : decode cX12_right 75 = .ok (.iload_n 1, 1) := by decide +kernel
theorem dX12_right_76 : decode cX12_right 76 = .ok (.ireturn, 1) := by decide +kernel
theorem dX12_hurtOf_0 : decode cX12_hurtOf 0 = .ok (.aload_n 0, 1) := by decide +kernel
theorem dX12_hurtOf_1 : decode cX12_hurtOf 1 = .ok (.iload_n 1, 1) := by decide +kernel
theorem dX12_hurtOf_2 : decode cX12_hurtOf 2 = .ok (.invokevirtual 194, 3) := by decide +kernel
theorem dX12_hurtOf_5 : decode cX12_hurtOf 5 = .ok (.iconst 0, 1) := by decide +kernel
theorem dX12_hurtOf_6 : decode cX12_hurtOf 6 = .ok (.istore_n 2, 1) := by decide +kernel
theorem dX12_hurtOf_7 : decode cX12_hurtOf 7 = .ok (.iconst 0, 1) := by decide +kernel
theorem dX12_hurtOf_8 : decode cX12_hurtOf 8 = .ok (.istore_n 3, 1) := by decide +kernel
theorem dX12_hurtOf_9 : decode cX12_hurtOf 9 = .ok (.iload_n 3, 1) := by decide +kernel
theorem dX12_hurtOf_10 : decode cX12_hurtOf 10 = .ok (.aload_n 0, 1) := by decide +kernel
theorem dX12_hurtOf_11 : decode cX12_hurtOf 11 = .ok (.getfield 7, 3) := by decide +kernel
theorem dX12_hurtOf_14 : decode cX12_hurtOf 14 = .ok (.if_icmp .ge 53, 3) := by decide +kernel
theorem dX12_hurtOf_17 : decode cX12_hurtOf 17 = .ok (.iconst 0, 1) := by decide +kernel
theorem dX12_hurtOf_18 : decode cX12_hurtOf 18 = .ok (.istore 4, 2) := by decide +kernel
theorem dX12_hurtOf_20 : decode cX12_hurtOf 20 = .ok (.iload 4, 2) := by decide +kernel
theorem dX12_hurtOf_22 : decode cX12_hurtOf 22 = .ok (.aload_n 0, 1) := by decide +kernel
theorem dX12_hurtOf_23 : decode cX12_hurtOf 23 = .ok (.getfield 7, 3) := by decide +kernel
theorem dX12_hurtOf_26 : decode cX12_hurtOf 26 = .ok (.if_icmp .ge 35, 3) := by decide +kernel
theorem dX12_hurtOf_29 : decode cX12_hurtOf 29 = .ok (.aload_n 0, 1) := by decide +kernel
theorem dX12_hurtOf_30 : decode cX12_hurtOf 30 = .ok (.iload_n 3, 1) := by decide +kernel
theorem dX12_hurtOf_31 : decode cX12_hurtOf 31 = .ok (.iload 4, 2) := by decide +kernel
theorem dX12_hurtOf_33 : decode cX12_hurtOf 33 = .ok (.invokevirtual 198, 3) := by decide +kernel
theorem dX12_hurtOf_36 : decode cX12_hurtOf 36 = .ok (.istore 5, 2) := by decide +kernel
theorem dX12_hurtOf_38 : decode cX12_hurtOf 38 = .ok (.iload_n 2, 1) := by decide +kernel
theorem dX12_hurtOf_39 : decode cX12_hurtOf 39 = .ok (.iload 5, 2) := by decide +kernel
theorem dX12_hurtOf_41 : decode cX12_hurtOf 41 = .ok (.bipush (-9), 2) := by decide +kernel
theorem dX12_hurtOf_43 : decode cX12_hurtOf 43 = .ok (.if_icmp .ne 8, 3) := by decide +kernel
theorem dX12_hurtOf_46 : decode cX12_hurtOf 46 = .ok (.bipush 100, 2) := by decide +kernel
theorem dX12_hurtOf_48 : decode cX12_hurtOf 48 = .ok (.goto 5, 3) := by decide +kernel
theorem dX12_hurtOf_51 : decode cX12_hurtOf 51 = .ok (.iload 5, 2) := by decide +kernel
theorem dX12_hurtOf_53 : decode cX12_hurtOf 53 = .ok (.iadd, 1) := by decide +kernel
theorem dX12_hurtOf_54 : decode cX12_hurtOf 54 = .ok (.istore_n 2, 1) := by decide +kernel
theorem dX12_hurtOf_55 : decode cX12_hurtOf 55 = .ok (.iinc 4 1, 3) := by decide +kernel
theorem dX12_hurtOf_58 : decode cX12_hurtOf 58 = .ok (.goto (-38), 3) := by decide +kernel
theorem dX12_hurtOf_61 : decode cX12_hurtOf 61 = .ok (.iinc 3 1, 3) := by decide +kernel
theorem dX12_hurtOf_64 : decode cX12_hurtOf 64 = .ok (.goto (-55), 3) := by decide +kernel
theorem dX12_hurtOf_67 : decode cX12_hurtOf 67 = .ok (.iload_n 2, 1) := by decide +kernel
theorem dX12_hurtOf_68 : decode cX12_hurtOf 68 = .ok (.ireturn, 1) := by decide +kernel
theorem dX12_hurt_0 : decode cX12_hurt 0 = .ok (.aload_n 0, 1) := by decide +kernel
theorem dX12_hurt_1 : decode cX12_hurt 1 = .ok (.iload_n 1, 1) := by decide +kernel
theorem dX12_hurt_2 : decode cX12_hurt 2 = .ok (.invokevirtual 135, 3) := by decide +kernel
theorem dX12_hurt_5 : decode cX12_hurt 5 = .ok (.istore_n 2, 1) := by decide +kernel
theorem dX12_hurt_6 : decode cX12_hurt 6 = .ok (.iload_n 2, 1) := by decide +kernel
theorem dX12_hurt_7 : decode cX12_hurt 7 = .ok (.bipush (-9), 2) := by decide +kernel
theorem dX12_hurt_9 : decode cX12_hurt 9 = .ok (.if_icmp .ne 7, 3) := by decide +kernel
theorem dX12_hurt_12 : decode cX12_hurt 12 = .ok (.iconst (-1), 1) := by decide +kernel
theorem dX12_hurt_13 : decode cX12_hurt 13 = .ok (.goto 8, 3) := by decide +kernel
theorem dX12_hurt_16 : decode cX12_hurt 16 = .ok (.aload_n 0, 1) := by decide +kernel
theorem dX12_hurt_17 : decode cX12_hurt 17 = .ok (.iload_n 2, 1) := by decide +kernel
theorem dX12_hurt_18 : decode cX12_hurt 18 = .ok (.invokevirtual 201, 3) := by decide +kernel
theorem dX12_hurt_21 : decode cX12_hurt 21 = .ok (.ireturn, 1) := by decide +kernel
theorem dX12_worst_0 : decode cX12_worst 0 = .ok (.bipush (-9), 2) := by decide +kernel
theorem dX12_worst_2 : decode cX12_worst 2 = .ok (.istore_n 1, 1) := by decide +kernel
theorem dX12_worst_3 : decode cX12_worst 3 = .ok (.iconst (-1), 1) := by decide +kernel
theorem dX12_worst_4 : decode cX12_worst 4 = .ok (.istore_n 2, 1) := by decide +kernel
theorem dX12_worst_5 : decode cX12_worst 5 = .ok (.aload_n 0, 1) := by decide +kernel
theorem dX12_worst_6 : decode cX12_worst 6 = .ok (.invokevirtual 175, 3) := by decide +kernel
theorem dX12_worst_9 : decode cX12_worst 9 = .ok (.istore_n 3, 1) := by decide +kernel
theorem dX12_worst_10 : decode cX12_worst 10 = .ok (.iconst 0, 1) := by decide +kernel
theorem dX12_worst_11 : decode cX12_worst 11 = .ok (.istore 4, 2) := by decide +kernel
theorem dX12_worst_13 : decode cX12_worst 13 = .ok (.iload 4, 2) := by decide +kernel
theorem dX12_worst_15 : decode cX12_worst 15 = .ok (.iload_n 3, 1) := by decide +kernel
theorem dX12_worst_16 : decode cX12_worst 16 = .ok (.if_icmp .ge 47, 3) := by decide +kernel
theorem dX12_worst_19 : decode cX12_worst 19 = .ok (.aload_n 0, 1) := by decide +kernel
theorem dX12_worst_20 : decode cX12_worst 20 = .ok (.aload_n 0, 1) := by decide +kernel
theorem dX12_worst_21 : decode cX12_worst 21 = .ok (.iload 4, 2) := by decide +kernel
theorem dX12_worst_23 : decode cX12_worst 23 = .ok (.invokevirtual 135, 3) := by decide +kernel
theorem dX12_worst_26 : decode cX12_worst 26 = .ok (.invokevirtual 201, 3) := by decide +kernel
theorem dX12_worst_29 : decode cX12_worst 29 = .ok (.istore 5, 2) := by decide +kernel
theorem dX12_worst_31 : decode cX12_worst 31 = .ok (.iload 5, 2) := by decide +kernel
theorem dX12_worst_33 : decode cX12_worst 33 = .ok (.iload_n 2, 1) := by decide +kernel
theorem dX12_worst_34 : decode cX12_worst 34 = .ok (.if_icmp .le 8, 3) := by decide +kernel
theorem dX12_worst_37 : decode cX12_worst 37 = .ok (.iload 4, 2) := by decide +kernel
theorem dX12_worst_39 : decode cX12_worst 39 = .ok (.goto 4, 3) := by decide +kernel
theorem dX12_worst_42 : decode cX12_worst 42 = .ok (.iload_n 1, 1) := by decide +kernel
theorem dX12_worst_43 : decode cX12_worst 43 = .ok (.istore_n 1, 1) := by decide +kernel
theorem dX12_worst_44 : decode cX12_worst 44 = .ok (.iload 5, 2) := by decide +kernel
theorem dX12_worst_46 : decode cX12_worst 46 = .ok (.iload_n 2, 1) := by decide +kernel
theorem dX12_worst_47 : decode cX12_worst 47 = .ok (.if_icmp .le 8, 3) := by decide +kernel
theorem dX12_worst_50 : decode cX12_worst 50 = .ok (.iload 5, 2) := by decide +kernel
theorem dX12_worst_52 : decode cX12_worst 52 = .ok (.goto 4, 3) := by decide +kernel
theorem dX12_worst_55 : decode cX12_worst 55 = .ok (.iload_n 2, 1) := by decide +kernel
theorem dX12_worst_56 : decode cX12_worst 56 = .ok (.istore_n 2, 1) := by decide +kernel
theorem dX12_worst_57 : decode cX12_worst 57 = .ok (.iinc 4 1, 3) := by decide +kernel
theorem dX12_worst_60 : decode cX12_worst 60 = .ok (.goto (-47), 3) := by decide +kernel
theorem dX12_worst_63 : decode cX12_worst 63 = .ok (.iload_n 1, 1) := by decide +kernel
theorem dX12_worst_64 : decode cX12_worst 64 = .ok (.ireturn, 1) := by decide +kernel
theorem dX12_sees_0 : decode cX12_sees 0 = .ok (.aload_n 0, 1) := by decide +kernel
theorem dX12_sees_1 : decode cX12_sees 1 = .ok (.iload_n 1, 1) := by decide +kernel
theorem dX12_sees_2 : decode cX12_sees 2 = .ok (.invokevirtual 162, 3) := by decide +kernel
theorem dX12_sees_5 : decode cX12_sees 5 = .ok (.ifCond .eq 26, 3) := by decide +kernel
theorem dX12_sees_8 : decode cX12_sees 8 = .ok (.aload_n 0, 1) := by decide +kernel
theorem dX12_sees_9 : decode cX12_sees 9 = .ok (.iload_n 2, 1) := by decide +kernel
theorem dX12_sees_10 : decode cX12_sees 10 = .ok (.invokevirtual 162, 3) := by decide +kernel
theorem dX12_sees_13 : decode cX12_sees 13 = .ok (.ifCond .eq 18, 3) := by decide +kernel
theorem dX12_sees_16 : decode cX12_sees 16 = .ok (.iload_n 1, 1) := by decide +kernel
theorem dX12_sees_17 : decode cX12_sees 17 = .ok (.iload_n 2, 1) := by decide +kernel
theorem dX12_sees_18 : decode cX12_sees 18 = .ok (.if_icmp .eq 13, 3) := by decide +kernel
theorem dX12_sees_21 : decode cX12_sees 21 = .ok (.iload_n 3, 1) := by decide +kernel
theorem dX12_sees_22 : decode cX12_sees 22 = .ok (.iconst 0, 1) := by decide +kernel
theorem dX12_sees_23 : decode cX12_sees 23 = .ok (.bipush 99, 2) := by decide +kernel
theorem dX12_sees_25 : decode cX12_sees 25 = .ok (.invokestatic 58, 3) := by decide +kernel
theorem dX12_sees_28 : decode cX12_sees 28 = .ok (.ifCond .ne 5, 3) := by decide +kernel
theorem dX12_sees_31 : decode cX12_sees 31 = .ok (.iconst (-1), 1) := by decide +kernel
theorem dX12_sees_32 : decode cX12_sees 32 = .ok (.ireturn, 1) := by decide +kernel
theorem dX12_sees_33 : decode cX12_sees 33 = .ok (.aload_n 0, 1) := by decide +kernel
theorem dX12_sees_34 : decode cX12_sees 34 = .ok (.getfield 132, 3) := by decide +kernel
theorem dX12_sees_37 : decode cX12_sees 37 = .ok (.bipush 6, 2) := by decide +kernel
theorem dX12_sees_39 : decode cX12_sees 39 = .ok (.if_icmp .ne 6, 3) := by decide +kernel
theorem dX12_sees_42 : decode cX12_sees 42 = .ok (.bipush (-3), 2) := by decide +kernel
theorem dX12_sees_44 : decode cX12_sees 44 = .ok (.ireturn, 1) := by decide +kernel
theorem dX12_sees_45 : decode cX12_sees 45 = .ok (.aload_n 0, 1) := by decide +kernel
theorem dX12_sees_46 : decode cX12_sees 46 = .ok (.getfield 45, 3) := by decide +kernel
theorem dX12_sees_49 : decode cX12_sees 49 = .ok (.aload_n 0, 1) := by decide +kernel
theorem dX12_sees_50 : decode cX12_sees 50 = .ok (.getfield 132, 3) := by decide +kernel
theorem dX12_sees_53 : decode cX12_sees 53 = .ok (.iload_n 1, 1) := by decide +kernel
theorem dX12_sees_54 : decode cX12_sees 54 = .ok (.iastore, 1) := by decide +kernel
theorem dX12_sees_55 : decode cX12_sees 55 = .ok (.aload_n 0, 1) := by decide +kernel
theorem dX12_sees_56 : decode cX12_sees 56 = .ok (.getfield 48, 3) := by decide +kernel
theorem dX12_sees_59 : decode cX12_sees 59 = .ok (.aload_n 0, 1) := by decide +kernel
theorem dX12_sees_60 : decode cX12_sees 60 = .ok (.getfield 132, 3) := by decide +kernel
theorem dX12_sees_63 : decode cX12_sees 63 = .ok (.iload_n 2, 1) := by decide +kernel
theorem dX12_sees_64 : decode cX12_sees 64 = .ok (.iastore, 1) := by decide +kernel
theorem dX12_sees_65 : decode cX12_sees 65 = .ok (.aload_n 0, 1) := by decide +kernel
theorem dX12_sees_66 : decode cX12_sees 66 = .ok (.getfield 51, 3) := by decide +kernel
theorem dX12_sees_69 : decode cX12_sees 69 = .ok (.aload_n 0, 1) := by decide +kernel
theorem dX12_sees_70 : decode cX12_sees 70 = .ok (.getfield 132, 3) := by decide +kernel
theorem dX12_sees_73 : decode cX12_sees 73 = .ok (.iload_n 3, 1) := by decide +kernel
theorem dX12_sees_74 : decode cX12_sees 74 = .ok (.iastore, 1) := by decide +kernel
theorem dX12_sees_75 : decode cX12_sees 75 = .ok (.aload_n 0, 1) := by decide +kernel
theorem dX12_sees_76 : decode cX12_sees 76 = .ok (.dup, 1) := by decide +kernel
theorem dX12_sees_77 : decode cX12_sees 77 = .ok (.getfield 132, 3) := by decide +kernel
theorem dX12_sees_80 : decode cX12_sees 80 = .ok (.iconst 1, 1) := by decide +kernel
theorem dX12_sees_81 : decode cX12_sees 81 = .ok (.iadd, 1) := by decide +kernel
theorem dX12_sees_82 : decode cX12_sees 82 = .ok (.putfield 132, 3) := by decide +kernel
theorem dX12_sees_85 : decode cX12_sees 85 = .ok (.aload_n 0, 1) := by decide +kernel
theorem dX12_sees_86 : decode cX12_sees 86 = .ok (.getfield 132, 3) := by decide +kernel
theorem dX12_sees_89 : decode cX12_sees 89 = .ok (.ireturn, 1) := by decide +kernel
theorem dX12_forget_0 : decode cX12_forget 0 = .ok (.aload_n 0, 1) := by decide +kernel
theorem dX12_forget_1 : decode cX12_forget 1 = .ok (.getfield 132, 3) := by decide +kernel
theorem dX12_forget_4 : decode cX12_forget 4 = .ok (.istore_n 1, 1) := by decide +kernel
theorem dX12_forget_5 : decode cX12_forget 5 = .ok (.aload_n 0, 1) := by decide +kernel
theorem dX12_forget_6 : decode cX12_forget 6 = .ok (.iconst 0, 1) := by decide +kernel
theorem dX12_forget_7 : decode cX12_forget 7 = .ok (.putfield 132, 3) := by decide +kernel
theorem dX12_forget_10 : decode cX12_forget 10 = .ok (.iload_n 1, 1) := by decide +kernel
theorem dX12_forget_11 : decode cX12_forget 11 = .ok (.ireturn, 1) := by decide +kernel
theorem dX12_unseen_0 : decode cX12_unseen 0 = .ok (.iconst 0, 1) := by decide +kernel
theorem dX12_unseen_1 : decode cX12_unseen 1 = .ok (.istore_n 1, 1) := by decide +kernel
theorem dX12_unseen_2 : decode cX12_unseen 2 = .ok (.aload_n 0, 1) := by decide +kernel
theorem dX12_unseen_3 : decode cX12_unseen 3 = .ok (.invokevirtual 175, 3) := by decide +kernel
theorem dX12_unseen_6 : decode cX12_unseen 6 = .ok (.istore_n 2, 1) := by decide +kernel
theorem dX12_unseen_7 : decode cX12_unseen 7 = .ok (.iconst 0, 1) := by decide +kernel
theorem dX12_unseen_8 : decode cX12_unseen 8 = .ok (.istore_n 3, 1) := by decide +kernel
theorem dX12_unseen_9 : decode cX12_unseen 9 = .ok (.iload_n 3, 1) := by decide +kernel
theorem dX12_unseen_10 : decode cX12_unseen 10 = .ok (.iload_n 2, 1) := by decide +kernel
theorem dX12_unseen_11 : decode cX12_unseen 11 = .ok (.if_icmp .ge 109, 3) := by decide +kernel
theorem dX12_unseen_14 : decode cX12_unseen 14 = .ok (.aload_n 0, 1) := by decide +kernel
theorem dX12_unseen_15 : decode cX12_unseen 15 = .ok (.aload_n 0, 1) := by decide +kernel
theorem dX12_unseen_16 : decode cX12_unseen 16 = .ok (.iload_n 3, 1) := by decide +kernel
theorem dX12_unseen_17 : decode cX12_unseen 17 = .ok (.invokevirtual 135, 3) := by decide +kernel
theorem dX12_unseen_20 : decode cX12_unseen 20 = .ok (.invokevirtual 194, 3) := by decide +kernel
theorem dX12_unseen_23 : decode cX12_unseen 23 = .ok (.iconst 1, 1) := by decide +kernel
theorem dX12_unseen_24 : decode cX12_unseen 24 = .ok (.istore 4, 2) := by decide +kernel
theorem dX12_unseen_26 : decode cX12_unseen 26 = .ok (.iconst 0, 1) := by decide +kernel
theorem dX12_unseen_27 : decode cX12_unseen 27 = .ok (.istore 5, 2) := by decide +kernel
theorem dX12_unseen_29 : decode cX12_unseen 29 = .ok (.iload 5, 2) := by decide +kernel
theorem dX12_unseen_31 : decode cX12_unseen 31 = .ok (.aload_n 0, 1) := by decide +kernel
theorem dX12_unseen_32 : decode cX12_unseen 32 = .ok (.getfield 132, 3) := by decide +kernel
theorem dX12_unseen_35 : decode cX12_unseen 35 = .ok (.if_icmp .ge 64, 3) := by decide +kernel
theorem dX12_unseen_38 : decode cX12_unseen 38 = .ok (.aload_n 0, 1) := by decide +kernel
theorem dX12_unseen_39 : decode cX12_unseen 39 = .ok (.aload_n 0, 1) := by decide +kernel
theorem dX12_unseen_40 : decode cX12_unseen 40 = .ok (.getfield 45, 3) := by decide +kernel
theorem dX12_unseen_43 : decode cX12_unseen 43 = .ok (.iload 5, 2) := by decide +kernel
theorem dX12_unseen_45 : decode cX12_unseen 45 = .ok (.iaload, 1) := by decide +kernel
theorem dX12_unseen_46 : decode cX12_unseen 46 = .ok (.aload_n 0, 1) := by decide +kernel
theorem dX12_unseen_47 : decode cX12_unseen 47 = .ok (.getfield 48, 3) := by decide +kernel
theorem dX12_unseen_50 : decode cX12_unseen 50 = .ok (.iload 5, 2) := by decide +kernel
theorem dX12_unseen_52 : decode cX12_unseen 52 = .ok (.iaload, 1) := by decide +kernel
theorem dX12_unseen_53 : decode cX12_unseen 53 = .ok (.invokevirtual 198, 3) := by decide +kernel
theorem dX12_unseen_56 : decode cX12_unseen 56 = .ok (.istore 6, 2) := by decide +kernel
theorem dX12_unseen_58 : decode cX12_unseen 58 = .ok (.iload 4, 2) := by decide +kernel
theorem dX12_unseen_60 : decode cX12_unseen 60 = .ok (.ifCond .eq 30, 3) := by decide +kernel
theorem dX12_unseen_63 : decode cX12_unseen 63 = .ok (.aload_n 0, 1) := by decide +kernel
theorem dX12_unseen_64 : decode cX12_unseen 64 = .ok (.getfield 51, 3) := by decide +kernel
theorem dX12_unseen_67 : decode cX12_unseen 67 = .ok (.iload 5, 2) := by decide +kernel
theorem dX12_unseen_69 : decode cX12_unseen 69 = .ok (.iaload, 1) := by decide +kernel
theorem dX12_unseen_70 : decode cX12_unseen 70 = .ok (.iload 6, 2) := by decide +kernel
theorem dX12_unseen_72 : decode cX12_unseen 72 = .ok (.bipush (-9), 2) := by decide +kernel
theorem dX12_unseen_74 : decode cX12_unseen 74 = .ok (.if_icmp .ne 7, 3) := by decide +kernel
theorem dX12_unseen_77 : decode cX12_unseen 77 = .ok (.iconst 0, 1) := by decide +kernel
theorem dX12_unseen_78 : decode cX12_unseen 78 = .ok (.goto 5, 3) := by decide +kernel
theorem dX12_unseen_81 : decode cX12_unseen 81 = .ok (.iload 6, 2) := by decide +kernel
theorem dX12_unseen_83 : decode cX12_unseen 83 = .ok (.if_icmp .ne 7, 3) := by decide +kernel
theorem dX12_unseen_86 : decode cX12_unseen 86 = .ok (.iconst 1, 1) := by decide +kernel
theorem dX12_unseen_87 : decode cX12_unseen 87 = .ok (.goto 4, 3) := by decide +kernel
theorem dX12_unseen_90 : decode cX12_unseen 90 = .ok (.iconst 0, 1) := by decide +kernel
theorem dX12_unseen_91 : decode cX12_unseen 91 = .ok (.istore 4, 2) := by decide +kernel
theorem dX12_unseen_93 : decode cX12_unseen 93 = .ok (.iinc 5 1, 3) := by decide +kernel
theorem dX12_unseen_96 : decode cX12_unseen 96 = .ok (.goto (-67), 3) := by decide +kernel
theorem dX12_unseen_99 : decode cX12_unseen 99 = .ok (.iload_n 1, 1) := by decide +kernel
theorem dX12_unseen_100 : decode cX12_unseen 100 = .ok (.iload 4, 2) := by decide +kernel
theorem dX12_unseen_102 : decode cX12_unseen 102 = .ok (.ifCond .eq 9, 3) := by decide +kernel
theorem dX12_unseen_105 : decode cX12_unseen 105 = .ok (.iconst 1, 1) := by decide +kernel
theorem dX12_unseen_106 : decode cX12_unseen 106 = .ok (.iload_n 3, 1) := by decide +kernel
theorem dX12_unseen_107 : decode cX12_unseen 107 = .ok (.ishl, 1) := by decide +kernel
theorem dX12_unseen_108 : decode cX12_unseen 108 = .ok (.goto 4, 3) := by decide +kernel
theorem dX12_unseen_111 : decode cX12_unseen 111 = .ok (.iconst 0, 1) := by decide +kernel
theorem dX12_unseen_112 : decode cX12_unseen 112 = .ok (.ior, 1) := by decide +kernel
theorem dX12_unseen_113 : decode cX12_unseen 113 = .ok (.istore_n 1, 1) := by decide +kernel
theorem dX12_unseen_114 : decode cX12_unseen 114 = .ok (.iinc 3 1, 3) := by decide +kernel
theorem dX12_unseen_117 : decode cX12_unseen 117 = .ok (.goto (-108), 3) := by decide +kernel
theorem dX12_unseen_120 : decode cX12_unseen 120 = .ok (.iload_n 1, 1) := by decide +kernel
theorem dX12_unseen_121 : decode cX12_unseen 121 = .ok (.ireturn, 1) := by decide +kernel
theorem dX12_keep_0 : decode cX12_keep 0 = .ok (.iload_n 1, 1) := by decide +kernel
theorem dX12_keep_1 : decode cX12_keep 1 = .ok (.iconst 0, 1) := by decide +kernel
theorem dX12_keep_2 : decode cX12_keep 2 = .ok (.iconst 1, 1) := by decide +kernel
theorem dX12_keep_3 : decode cX12_keep 3 = .ok (.invokestatic 58, 3) := by decide +kernel
theorem dX12_keep_6 : decode cX12_keep 6 = .ok (.ifCond .ne 5, 3) := by decide +kernel
theorem dX12_keep_9 : decode cX12_keep 9 = .ok (.iconst (-1), 1) := by decide +kernel
theorem dX12_keep_10 : decode cX12_keep 10 = .ok (.ireturn, 1) := by decide +kernel
theorem dX12_keep_11 : decode cX12_keep 11 = .ok (.aload_n 0, 1) := by decide +kernel
theorem dX12_keep_12 : decode cX12_keep 12 = .ok (.getfield 26, 3) := by decide +kernel
theorem dX12_keep_15 : decode cX12_keep 15 = .ok (.iload_n 1, 1) := by decide +kernel
theorem dX12_keep_16 : decode cX12_keep 16 = .ok (.iconst 1, 1) := by decide +kernel
theorem dX12_keep_17 : decode cX12_keep 17 = .ok (.bastore, 1) := by decide +kernel
theorem dX12_keep_18 : decode cX12_keep 18 = .ok (.iconst 0, 1) := by decide +kernel
theorem dX12_keep_19 : decode cX12_keep 19 = .ok (.istore_n 2, 1) := by decide +kernel
theorem dX12_keep_20 : decode cX12_keep 20 = .ok (.iload_n 2, 1) := by decide +kernel
theorem dX12_keep_21 : decode cX12_keep 21 = .ok (.sipush 622, 3) := by decide +kernel
theorem dX12_keep_24 : decode cX12_keep 24 = .ok (.if_icmp .ge 27, 3) := by decide +kernel
theorem dX12_keep_27 : decode cX12_keep 27 = .ok (.aload_n 0, 1) := by decide +kernel
theorem dX12_keep_28 : decode cX12_keep 28 = .ok (.getfield 30, 3) := by decide +kernel
theorem dX12_keep_31 : decode cX12_keep 31 = .ok (.sipush 622, 3) := by decide +kernel
theorem dX12_keep_34 : decode cX12_keep 34 = .ok (.iload_n 1, 1) := by decide +kernel
theorem dX12_keep_35 : decode cX12_keep 35 = .ok (.imul, 1) := by decide +kernel
theorem dX12_keep_36 : decode cX12_keep 36 = .ok (.iload_n 2, 1) := by decide +kernel
theorem dX12_keep_37 : decode cX12_keep 37 = .ok (.iadd, 1) := by decide +kernel
theorem dX12_keep_38 : decode cX12_keep 38 = .ok (.aload_n 0, 1) := by decide +kernel
theorem dX12_keep_39 : decode cX12_keep 39 = .ok (.getfield 19, 3) := by decide +kernel
theorem dX12_keep_42 : decode cX12_keep 42 = .ok (.iload_n 2, 1) := by decide +kernel
theorem dX12_keep_43 : decode cX12_keep 43 = .ok (.iaload, 1) := by decide +kernel
theorem dX12_keep_44 : decode cX12_keep 44 = .ok (.iastore, 1) := by decide +kernel
theorem dX12_keep_45 : decode cX12_keep 45 = .ok (.iinc 2 1, 3) := by decide +kernel
theorem dX12_keep_48 : decode cX12_keep 48 = .ok (.goto (-28), 3) := by decide +kernel
theorem dX12_keep_51 : decode cX12_keep 51 = .ok (.aload_n 0, 1) := by decide +kernel
theorem dX12_keep_52 : decode cX12_keep 52 = .ok (.invokevirtual 175, 3) := by decide +kernel
theorem dX12_keep_55 : decode cX12_keep 55 = .ok (.ireturn, 1) := by decide +kernel
theorem dX12_back_0 : decode cX12_back 0 = .ok (.iload_n 1, 1) := by decide +kernel
theorem dX12_back_1 : decode cX12_back 1 = .ok (.iconst 0, 1) := by decide +kernel
theorem dX12_back_2 : decode cX12_back 2 = .ok (.iconst 1, 1) := by decide +kernel
theorem dX12_back_3 : decode cX12_back 3 = .ok (.invokestatic 58, 3) := by decide +kernel
theorem dX12_back_6 : decode cX12_back 6 = .ok (.ifCond .ne 5, 3) := by decide +kernel
theorem dX12_back_9 : decode cX12_back 9 = .ok (.iconst (-1), 1) := by decide +kernel
theorem dX12_back_10 : decode cX12_back 10 = .ok (.ireturn, 1) := by decide +kernel
theorem dX12_back_11 : decode cX12_back 11 = .ok (.aload_n 0, 1) := by decide +kernel
theorem dX12_back_12 : decode cX12_back 12 = .ok (.getfield 26, 3) := by decide +kernel
theorem dX12_back_15 : decode cX12_back 15 = .ok (.iload_n 1, 1) := by decide +kernel
theorem dX12_back_16 : decode cX12_back 16 = .ok (.baload, 1) := by decide +kernel
theorem dX12_back_17 : decode cX12_back 17 = .ok (.ifCond .ne 6, 3) := by decide +kernel
theorem dX12_back_20 : decode cX12_back 20 = .ok (.bipush (-2), 2) := by decide +kernel
theorem dX12_back_22 : decode cX12_back 22 = .ok (.ireturn, 1) := by decide +kernel
theorem dX12_back_23 : decode cX12_back 23 = .ok (.iconst 0, 1) := by decide +kernel
theorem dX12_back_24 : decode cX12_back 24 = .ok (.istore_n 2, 1) := by decide +kernel
theorem dX12_back_25 : decode cX12_back 25 = .ok (.iload_n 2, 1) := by decide +kernel
theorem dX12_back_26 : decode cX12_back 26 = .ok (.sipush 622, 3) := by decide +kernel
theorem dX12_back_29 : decode cX12_back 29 = .ok (.if_icmp .ge 27, 3) := by decide +kernel
theorem dX12_back_32 : decode cX12_back 32 = .ok (.aload_n 0, 1) := by decide +kernel
theorem dX12_back_33 : decode cX12_back 33 = .ok (.getfield 19, 3) := by decide +kernel
theorem dX12_back_36 : decode cX12_back 36 = .ok (.iload_n 2, 1) := by decide +kernel
theorem dX12_back_37 : decode cX12_back 37 = .ok (.aload_n 0, 1) := by decide +kernel
theorem dX12_back_38 : decode cX12_back 38 = .ok (.getfield 30, 3) := by decide +kernel
theorem dX12_back_41 : decode cX12_back 41 = .ok (.sipush 622, 3) := by decide +kernel
theorem dX12_back_44 : decode cX12_back 44 = .ok (.iload_n 1, 1) := by decide +kernel
theorem dX12_back_45 : decode cX12_back 45 = .ok (.imul, 1) := by decide +kernel
theorem dX12_back_46 : decode cX12_back 46 = .ok (.iload_n 2, 1) := by decide +kernel
theorem dX12_back_47 : decode cX12_back 47 = .ok (.iadd, 1) := by decide +kernel
theorem dX12_back_48 : decode cX12_back 48 = .ok (.iaload, 1) := by decide +kernel
theorem dX12_back_49 : decode cX12_back 49 = .ok (.iastore, 1) := by decide +kernel
theorem dX12_back_50 : decode cX12_back 50 = .ok (.iinc 2 1, 3) := by decide +kernel
theorem dX12_back_53 : decode cX12_back 53 = .ok (.goto (-28), 3) := by decide +kernel
theorem dX12_back_56 : decode cX12_back 56 = .ok (.aload_n 0, 1) := by decide +kernel
theorem dX12_back_57 : decode cX12_back 57 = .ok (.iconst 0, 1) := by decide +kernel
theorem dX12_back_58 : decode cX12_back 58 = .ok (.putfield 129, 3) := by decide +kernel
theorem dX12_back_61 : decode cX12_back 61 = .ok (.aload_n 0, 1) := by decide +kernel
theorem dX12_back_62 : decode cX12_back 62 = .ok (.invokevirtual 175, 3) := by decide +kernel
theorem dX12_back_65 : decode cX12_back 65 = .ok (.ireturn, 1) := by decide +kernel
theorem dX12_count_0 : decode cX12_count 0 = .ok (.iload_n 1, 1) := by decide +kernel
theorem dX12_count_1 : decode cX12_count 1 = .ok (.tableswitch 116 0 10 #[59, 64, 69, 74, 79, 84, 89, 94, 101, 106, 111], 59) := by decide +kernel
theorem dX12_count_60 : decode cX12_count 60 = .ok (.aload_n 0, 1) := by decide +kernel
theorem dX12_count_61 : decode cX12_count 61 = .ok (.getfield 7, 3) := by decide +kernel
theorem dX12_count_64 : decode cX12_count 64 = .ok (.ireturn, 1) := by decide +kernel
theorem dX12_count_65 : decode cX12_count 65 = .ok (.aload_n 0, 1) := by decide +kernel
theorem dX12_count_66 : decode cX12_count 66 = .ok (.invokevirtual 175, 3) := by decide +kernel
theorem dX12_count_69 : decode cX12_count 69 = .ok (.ireturn, 1) := by decide +kernel
theorem dX12_count_70 : decode cX12_count 70 = .ok (.aload_n 0, 1) := by decide +kernel
theorem dX12_count_71 : decode cX12_count 71 = .ok (.getfield 120, 3) := by decide +kernel
theorem dX12_count_74 : decode cX12_count 74 = .ok (.ireturn, 1) := by decide +kernel
theorem dX12_count_75 : decode cX12_count 75 = .ok (.aload_n 0, 1) := by decide +kernel
theorem dX12_count_76 : decode cX12_count 76 = .ok (.getfield 123, 3) := by decide +kernel
theorem dX12_count_79 : decode cX12_count 79 = .ok (.ireturn, 1) := by decide +kernel
theorem dX12_count_80 : decode cX12_count 80 = .ok (.aload_n 0, 1) := by decide +kernel
theorem dX12_count_81 : decode cX12_count 81 = .ok (.getfield 13, 3) := by decide +kernel
theorem dX12_count_84 : decode cX12_count 84 = .ok (.ireturn, 1) := by decide +kernel
theorem dX12_count_85 : decode cX12_count 85 = .ok (.aload_n 0, 1) := by decide +kernel
theorem dX12_count_86 : decode cX12_count 86 = .ok (.getfield 16, 3) := by decide +kernel
theorem dX12_count_89 : decode cX12_count 89 = .ok (.ireturn, 1) := by decide +kernel
theorem dX12_count_90 : decode cX12_count 90 = .ok (.aload_n 0, 1) := by decide +kernel
theorem dX12_count_91 : decode cX12_count 91 = .ok (.getfield 126, 3) := by decide +kernel
theorem dX12_count_94 : decode cX12_count 94 = .ok (.ireturn, 1) := by decide +kernel
theorem dX12_count_95 : decode cX12_count 95 = .ok (.aload_n 0, 1) := by decide +kernel
theorem dX12_count_96 : decode cX12_count 96 = .ok (.getfield 19, 3) := by decide +kernel
theorem dX12_count_99 : decode cX12_count 99 = .ok (.iconst 0, 1) := by decide +kernel
theorem dX12_count_100 : decode cX12_count 100 = .ok (.iaload, 1) := by decide +kernel
theorem dX12_count_101 : decode cX12_count 101 = .ok (.ireturn, 1) := by decide +kernel
theorem dX12_count_102 : decode cX12_count 102 = .ok (.aload_n 0, 1) := by decide +kernel
theorem dX12_count_103 : decode cX12_count 103 = .ok (.getfield 132, 3) := by decide +kernel
theorem dX12_count_106 : decode cX12_count 106 = .ok (.ireturn, 1) := by decide +kernel
theorem dX12_count_107 : decode cX12_count 107 = .ok (.aload_n 0, 1) := by decide +kernel
theorem dX12_count_108 : decode cX12_count 108 = .ok (.getfield 66, 3) := by decide +kernel
theorem dX12_count_111 : decode cX12_count 111 = .ok (.ireturn, 1) := by decide +kernel
theorem dX12_count_112 : decode cX12_count 112 = .ok (.aload_n 0, 1) := by decide +kernel
theorem dX12_count_113 : decode cX12_count 113 = .ok (.getfield 129, 3) := by decide +kernel
theorem dX12_count_116 : decode cX12_count 116 = .ok (.ireturn, 1) := by decide +kernel
theorem dX12_count_117 : decode cX12_count 117 = .ok (.iconst (-1), 1) := by decide +kernel
theorem dX12_count_118 : decode cX12_count 118 = .ok (.ireturn, 1) := by decide +kernel
