theorem dX10_askLeaves_34 : decode cX10_askLeaves 34 = .ok (.getfield 58, 3) := by decide +kernel
theorem dX10_askLeaves_37 : decode cX10_askLeaves 37 = .ok (.iload_n 1, 1) := by decide +kernel
theorem dX10_askLeaves_38 : decode cX10_askLeaves 38 = .ok (.invokevirtual 301, 3) := by decide +kernel
theorem dX10_askLeaves_41 : decode cX10_askLeaves 41 = .ok (.ireturn, 1) := by decide +kernel
theorem dX10_judge_0 : decode cX10_judge 0 = .ok (.aload_n 0, 1) := by decide +kernel
theorem dX10_judge_1 : decode cX10_judge 1 = .ok (.invokevirtual 187, 3) := by decide +kernel
theorem dX10_judge_4 : decode cX10_judge 4 = .ok (.ifCond .eq 5, 3) := by decide +kernel
theorem dX10_judge_7 : decode cX10_judge 7 = .ok (.iconst (-1), 1) := by decide +kernel
theorem dX10_judge_8 : decode cX10_judge 8 = .ok (.ireturn, 1) := by decide +kernel
theorem dX10_judge_9 : decode cX10_judge 9 = .ok (.iconst 0, 1) := by decide +kernel
theorem dX10_judge_10 : decode cX10_judge 10 = .ok (.istore_n 1, 1) := by decide +kernel
theorem dX10_judge_11 : decode cX10_judge 11 = .ok (.iload_n 1, 1) := by decide +kernel
theorem dX10_judge_12 : decode cX10_judge 12 = .ok (.aload_n 0, 1) := by decide +kernel
theorem dX10_judge_13 : decode cX10_judge 13 = .ok (.getfield 22, 3) := by decide +kernel
theorem dX10_judge_16 : decode cX10_judge 16 = .ok (.getfield 304, 3) := by decide +kernel
theorem dX10_judge_19 : decode cX10_judge 19 = .ok (.if_icmp .ge 23, 3) := by decide +kernel
theorem dX10_judge_22 : decode cX10_judge 22 = .ok (.aload_n 0, 1) := by decide +kernel
theorem dX10_judge_23 : decode cX10_judge 23 = .ok (.getfield 58, 3) := by decide +kernel
theorem dX10_judge_26 : decode cX10_judge 26 = .ok (.iload_n 1, 1) := by decide +kernel
theorem dX10_judge_27 : decode cX10_judge 27 = .ok (.iconst 0, 1) := by decide +kernel
theorem dX10_judge_28 : decode cX10_judge 28 = .ok (.invokevirtual 307, 3) := by decide +kernel
theorem dX10_judge_31 : decode cX10_judge 31 = .ok (.ifCond .ne 5, 3) := by decide +kernel
theorem dX10_judge_34 : decode cX10_judge 34 = .ok (.iload_n 1, 1) := by decide +kernel
theorem dX10_judge_35 : decode cX10_judge 35 = .ok (.ireturn, 1) := by decide +kernel
theorem dX10_judge_36 : decode cX10_judge 36 = .ok (.iinc 1 1, 3) := by decide +kernel
theorem dX10_judge_39 : decode cX10_judge 39 = .ok (.goto (-28), 3) := by decide +kernel
theorem dX10_judge_42 : decode cX10_judge 42 = .ok (.bipush (-2), 2) := by decide +kernel
theorem dX10_judge_44 : decode cX10_judge 44 = .ok (.ireturn, 1) := by decide +kernel
theorem dX10_saw_0 : decode cX10_saw 0 = .ok (.aload_n 0, 1) := by decide +kernel
theorem dX10_saw_1 : decode cX10_saw 1 = .ok (.invokevirtual 187, 3) := by decide +kernel
theorem dX10_saw_4 : decode cX10_saw 4 = .ok (.ifCond .eq 6, 3) := by decide +kernel
theorem dX10_saw_7 : decode cX10_saw 7 = .ok (.bipush (-100), 2) := by decide +kernel
theorem dX10_saw_9 : decode cX10_saw 9 = .ok (.ireturn, 1) := by decide +kernel
theorem dX10_saw_10 : decode cX10_saw 10 = .ok (.iload_n 1, 1) := by decide +kernel
theorem dX10_saw_11 : decode cX10_saw 11 = .ok (.bipush 9, 2) := by decide +kernel
theorem dX10_saw_13 : decode cX10_saw 13 = .ok (.invokestatic 216, 3) := by decide +kernel
theorem dX10_saw_16 : decode cX10_saw 16 = .ok (.ifCond .ne 11, 3) := by decide +kernel
theorem dX10_saw_19 : decode cX10_saw 19 = .ok (.aload_n 0, 1) := by decide +kernel
theorem dX10_saw_20 : decode cX10_saw 20 = .ok (.iconst 2, 1) := by decide +kernel
theorem dX10_saw_21 : decode cX10_saw 21 = .ok (.putfield 107, 3) := by decide +kernel
theorem dX10_saw_24 : decode cX10_saw 24 = .ok (.bipush (-100), 2) := by decide +kernel
theorem dX10_saw_26 : decode cX10_saw 26 = .ok (.ireturn, 1) := by decide +kernel
theorem dX10_saw_27 : decode cX10_saw 27 = .ok (.iload 4, 2) := by decide +kernel
theorem dX10_saw_29 : decode cX10_saw 29 = .ok (.ifCond .eq 12, 3) := by decide +kernel
theorem dX10_saw_32 : decode cX10_saw 32 = .ok (.iload_n 1, 1) := by decide +kernel
theorem dX10_saw_33 : decode cX10_saw 33 = .ok (.iload_n 3, 1) := by decide +kernel
theorem dX10_saw_34 : decode cX10_saw 34 = .ok (.iload_n 2, 1) := by decide +kernel
theorem dX10_saw_35 : decode cX10_saw 35 = .ok (.invokestatic 310, 3) := by decide +kernel
theorem dX10_saw_38 : decode cX10_saw 38 = .ok (.goto 9, 3) := by decide +kernel
theorem dX10_saw_41 : decode cX10_saw 41 = .ok (.iload_n 1, 1) := by decide +kernel
theorem dX10_saw_42 : decode cX10_saw 42 = .ok (.iload_n 2, 1) := by decide +kernel
theorem dX10_saw_43 : decode cX10_saw 43 = .ok (.iload_n 3, 1) := by decide +kernel
theorem dX10_saw_44 : decode cX10_saw 44 = .ok (.invokestatic 310, 3) := by decide +kernel
theorem dX10_saw_47 : decode cX10_saw 47 = .ok (.ireturn, 1) := by decide +kernel
theorem dX10_rests_0 : decode cX10_rests 0 = .ok (.aload_n 0, 1) := by decide +kernel
theorem dX10_rests_1 : decode cX10_rests 1 = .ok (.invokevirtual 187, 3) := by decide +kernel
theorem dX10_rests_4 : decode cX10_rests 4 = .ok (.ifCond .eq 5, 3) := by decide +kernel
theorem dX10_rests_7 : decode cX10_rests 7 = .ok (.iconst (-1), 1) := by decide +kernel
theorem dX10_rests_8 : decode cX10_rests 8 = .ok (.ireturn, 1) := by decide +kernel
theorem dX10_rests_9 : decode cX10_rests 9 = .ok (.iload_n 1, 1) := by decide +kernel
theorem dX10_rests_10 : decode cX10_rests 10 = .ok (.bipush 9, 2) := by decide +kernel
theorem dX10_rests_12 : decode cX10_rests 12 = .ok (.invokestatic 216, 3) := by decide +kernel
theorem dX10_rests_15 : decode cX10_rests 15 = .ok (.ifCond .ne 9, 3) := by decide +kernel
theorem dX10_rests_18 : decode cX10_rests 18 = .ok (.aload_n 0, 1) := by decide +kernel
theorem dX10_rests_19 : decode cX10_rests 19 = .ok (.iconst 2, 1) := by decide +kernel
theorem dX10_rests_20 : decode cX10_rests 20 = .ok (.invokevirtual 87, 3) := by decide +kernel
theorem dX10_rests_23 : decode cX10_rests 23 = .ok (.ireturn, 1) := by decide +kernel
theorem dX10_rests_24 : decode cX10_rests 24 = .ok (.iconst 0, 1) := by decide +kernel
theorem dX10_rests_25 : decode cX10_rests 25 = .ok (.istore_n 2, 1) := by decide +kernel
theorem dX10_rests_26 : decode cX10_rests 26 = .ok (.iconst 0, 1) := by decide +kernel
theorem dX10_rests_27 : decode cX10_rests 27 = .ok (.istore_n 3, 1) := by decide +kernel
theorem dX10_rests_28 : decode cX10_rests 28 = .ok (.iload_n 3, 1) := by decide +kernel
theorem dX10_rests_29 : decode cX10_rests 29 = .ok (.iconst 4, 1) := by decide +kernel
theorem dX10_rests_30 : decode cX10_rests 30 = .ok (.if_icmp .ge 29, 3) := by decide +kernel
theorem dX10_rests_33 : decode cX10_rests 33 = .ok (.iload_n 1, 1) := by decide +kernel
theorem dX10_rests_34 : decode cX10_rests 34 = .ok (.iload_n 3, 1) := by decide +kernel
theorem dX10_rests_35 : decode cX10_rests 35 = .ok (.iconst 1, 1) := by decide +kernel
theorem dX10_rests_36 : decode cX10_rests 36 = .ok (.invokestatic 257, 3) := by decide +kernel
theorem dX10_rests_39 : decode cX10_rests 39 = .ok (.iload_n 3, 1) := by decide +kernel
theorem dX10_rests_40 : decode cX10_rests 40 = .ok (.iconst 0, 1) := by decide +kernel
theorem dX10_rests_41 : decode cX10_rests 41 = .ok (.invokestatic 257, 3) := by decide +kernel
theorem dX10_rests_44 : decode cX10_rests 44 = .ok (.invokestatic 314, 3) := by decide +kernel
theorem dX10_rests_47 : decode cX10_rests 47 = .ok (.ifCond .eq 6, 3) := by decide +kernel
theorem dX10_rests_50 : decode cX10_rests 50 = .ok (.iinc 2 1, 3) := by decide +kernel
theorem dX10_rests_53 : decode cX10_rests 53 = .ok (.iinc 3 1, 3) := by decide +kernel
theorem dX10_rests_56 : decode cX10_rests 56 = .ok (.goto (-28), 3) := by decide +kernel
theorem dX10_rests_59 : decode cX10_rests 59 = .ok (.iload_n 2, 1) := by decide +kernel
theorem dX10_rests_60 : decode cX10_rests 60 = .ok (.ireturn, 1) := by decide +kernel
theorem dX10_rest_0 : decode cX10_rest 0 = .ok (.aload_n 0, 1) := by decide +kernel
theorem dX10_rest_1 : decode cX10_rest 1 = .ok (.invokevirtual 187, 3) := by decide +kernel
theorem dX10_rest_4 : decode cX10_rest 4 = .ok (.ifCond .eq 5, 3) := by decide +kernel
theorem dX10_rest_7 : decode cX10_rest 7 = .ok (.iconst (-1), 1) := by decide +kernel
theorem dX10_rest_8 : decode cX10_rest 8 = .ok (.ireturn, 1) := by decide +kernel
theorem dX10_rest_9 : decode cX10_rest 9 = .ok (.iload_n 1, 1) := by decide +kernel
theorem dX10_rest_10 : decode cX10_rest 10 = .ok (.bipush 9, 2) := by decide +kernel
theorem dX10_rest_12 : decode cX10_rest 12 = .ok (.invokestatic 216, 3) := by decide +kernel
theorem dX10_rest_15 : decode cX10_rest 15 = .ok (.ifCond .ne 9, 3) := by decide +kernel
theorem dX10_rest_18 : decode cX10_rest 18 = .ok (.aload_n 0, 1) := by decide +kernel
theorem dX10_rest_19 : decode cX10_rest 19 = .ok (.iconst 2, 1) := by decide +kernel
theorem dX10_rest_20 : decode cX10_rest 20 = .ok (.invokevirtual 87, 3) := by decide +kernel
theorem dX10_rest_23 : decode cX10_rest 23 = .ok (.ireturn, 1) := by decide +kernel
theorem dX10_rest_24 : decode cX10_rest 24 = .ok (.iconst 0, 1) := by decide +kernel
theorem dX10_rest_25 : decode cX10_rest 25 = .ok (.istore_n 2, 1) := by decide +kernel
theorem dX10_rest_26 : decode cX10_rest 26 = .ok (.iload_n 2, 1) := by decide +kernel
theorem dX10_rest_27 : decode cX10_rest 27 = .ok (.iconst 4, 1) := by decide +kernel
theorem dX10_rest_28 : decode cX10_rest 28 = .ok (.if_icmp .ge 54, 3) := by decide +kernel
theorem dX10_rest_31 : decode cX10_rest 31 = .ok (.iload_n 2, 1) := by decide +kernel
theorem dX10_rest_32 : decode cX10_rest 32 = .ok (.iconst 1, 1) := by decide +kernel
theorem dX10_rest_33 : decode cX10_rest 33 = .ok (.invokestatic 257, 3) := by decide +kernel
theorem dX10_rest_36 : decode cX10_rest 36 = .ok (.istore_n 3, 1) := by decide +kernel
theorem dX10_rest_37 : decode cX10_rest 37 = .ok (.iload_n 2, 1) := by decide +kernel
theorem dX10_rest_38 : decode cX10_rest 38 = .ok (.iconst 0, 1) := by decide +kernel
theorem dX10_rest_39 : decode cX10_rest 39 = .ok (.invokestatic 257, 3) := by decide +kernel
theorem dX10_rest_42 : decode cX10_rest 42 = .ok (.istore 4, 2) := by decide +kernel
theorem dX10_rest_44 : decode cX10_rest 44 = .ok (.iload_n 1, 1) := by decide +kernel
theorem dX10_rest_45 : decode cX10_rest 45 = .ok (.iload_n 3, 1) := by decide +kernel
theorem dX10_rest_46 : decode cX10_rest 46 = .ok (.iload 4, 2) := by decide +kernel
theorem dX10_rest_48 : decode cX10_rest 48 = .ok (.invokestatic 314, 3) := by decide +kernel
theorem dX10_rest_51 : decode cX10_rest 51 = .ok (.ifCond .eq 25, 3) := by decide +kernel
theorem dX10_rest_54 : decode cX10_rest 54 = .ok (.iload_n 3, 1) := by decide +kernel
theorem dX10_rest_55 : decode cX10_rest 55 = .ok (.ifCond .eq 8, 3) := by decide +kernel
theorem dX10_rest_58 : decode cX10_rest 58 = .ok (.bipush 10, 2) := by decide +kernel
theorem dX10_rest_60 : decode cX10_rest 60 = .ok (.goto 4, 3) := by decide +kernel
theorem dX10_rest_63 : decode cX10_rest 63 = .ok (.iconst 0, 1) := by decide +kernel
theorem dX10_rest_64 : decode cX10_rest 64 = .ok (.iload 4, 2) := by decide +kernel
theorem dX10_rest_66 : decode cX10_rest 66 = .ok (.ifCond .eq 7, 3) := by decide +kernel
theorem dX10_rest_69 : decode cX10_rest 69 = .ok (.iconst 1, 1) := by decide +kernel
theorem dX10_rest_70 : decode cX10_rest 70 = .ok (.goto 4, 3) := by decide +kernel
theorem dX10_rest_73 : decode cX10_rest 73 = .ok (.iconst 0, 1) := by decide +kernel
theorem dX10_rest_74 : decode cX10_rest 74 = .ok (.iadd, 1) := by decide +kernel
theorem dX10_rest_75 : decode cX10_rest 75 = .ok (.ireturn, 1) := by decide +kernel
theorem dX10_rest_76 : decode cX10_rest 76 = .ok (.iinc 2 1, 3) := by decide +kernel
theorem dX10_rest_79 : decode cX10_rest 79 = .ok (.goto (-53), 3) := by decide +kernel
theorem dX10_rest_82 : decode cX10_rest 82 = .ok (.bipush (-2), 2) := by decide +kernel
theorem dX10_rest_84 : decode cX10_rest 84 = .ok (.ireturn, 1) := by decide +kernel
theorem dX10_odds_0 : decode cX10_odds 0 = .ok (.aload_n 0, 1) := by decide +kernel
theorem dX10_odds_1 : decode cX10_odds 1 = .ok (.iload_n 1, 1) := by decide +kernel
theorem dX10_odds_2 : decode cX10_odds 2 = .ok (.invokevirtual 142, 3) := by decide +kernel
theorem dX10_odds_5 : decode cX10_odds 5 = .ok (.ifCond .eq 7, 3) := by decide +kernel
theorem dX10_odds_8 : decode cX10_odds 8 = .ok (.ldc2_w 318, 3) := by decide +kernel
theorem dX10_odds_11 : decode cX10_odds 11 = .ok (.lreturn, 1) := by decide +kernel
theorem dX10_odds_12 : decode cX10_odds 12 = .ok (.iload_n 2, 1) := by decide +kernel
theorem dX10_odds_13 : decode cX10_odds 13 = .ok (.bipush 8, 2) := by decide +kernel
theorem dX10_odds_15 : decode cX10_odds 15 = .ok (.invokestatic 216, 3) := by decide +kernel
theorem dX10_odds_18 : decode cX10_odds 18 = .ok (.ifCond .ne 10, 3) := by decide +kernel
theorem dX10_odds_21 : decode cX10_odds 21 = .ok (.aload_n 0, 1) := by decide +kernel
theorem dX10_odds_22 : decode cX10_odds 22 = .ok (.iconst 2, 1) := by decide +kernel
theorem dX10_odds_23 : decode cX10_odds 23 = .ok (.invokevirtual 87, 3) := by decide +kernel
theorem dX10_odds_26 : decode cX10_odds 26 = .ok (.i2l, 1) := by decide +kernel
theorem dX10_odds_27 : decode cX10_odds 27 = .ok (.lreturn, 1) := by decide +kernel
theorem dX10_odds_28 : decode cX10_odds 28 = .ok (.aload_n 0, 1) := by decide +kernel
theorem dX10_odds_29 : decode cX10_odds 29 = .ok (.iload_n 1, 1) := by decide +kernel
theorem dX10_odds_30 : decode cX10_odds 30 = .ok (.aload_n 0, 1) := by decide +kernel
theorem dX10_odds_31 : decode cX10_odds 31 = .ok (.getfield 26, 3) := by decide +kernel
theorem dX10_odds_34 : decode cX10_odds 34 = .ok (.iload_n 1, 1) := by decide +kernel
theorem dX10_odds_35 : decode cX10_odds 35 = .ok (.invokevirtual 154, 3) := by decide +kernel
theorem dX10_odds_38 : decode cX10_odds 38 = .ok (.iload_n 2, 1) := by decide +kernel
theorem dX10_odds_39 : decode cX10_odds 39 = .ok (.iconst 0, 1) := by decide +kernel
theorem dX10_odds_40 : decode cX10_odds 40 = .ok (.invokevirtual 320, 3) := by decide +kernel
theorem dX10_odds_43 : decode cX10_odds 43 = .ok (.iload_n 2, 1) := by decide +kernel
theorem dX10_odds_44 : decode cX10_odds 44 = .ok (.invokestatic 324, 3) := by decide +kernel
theorem dX10_odds_47 : decode cX10_odds 47 = .ok (.iload_n 3, 1) := by decide +kernel
theorem dX10_odds_48 : decode cX10_odds 48 = .ok (.invokestatic 328, 3) := by decide +kernel
theorem dX10_odds_51 : decode cX10_odds 51 = .ok (.lreturn, 1) := by decide +kernel
theorem dX10_mean_0 : decode cX10_mean 0 = .ok (.aload_n 0, 1) := by decide +kernel
theorem dX10_mean_1 : decode cX10_mean 1 = .ok (.iload_n 1, 1) := by decide +kernel
theorem dX10_mean_2 : decode cX10_mean 2 = .ok (.invokevirtual 142, 3) := by decide +kernel
theorem dX10_mean_5 : decode cX10_mean 5 = .ok (.ifCond .eq 7, 3) := by decide +kernel
theorem dX10_mean_8 : decode cX10_mean 8 = .ok (.ldc2_w 318, 3) := by decide +kernel
theorem dX10_mean_11 : decode cX10_mean 11 = .ok (.lreturn, 1) := by decide +kernel
theorem dX10_mean_12 : decode cX10_mean 12 = .ok (.iload_n 2, 1) := by decide +kernel
theorem dX10_mean_13 : decode cX10_mean 13 = .ok (.bipush 8, 2) := by decide +kernel
theorem dX10_mean_15 : decode cX10_mean 15 = .ok (.invokestatic 216, 3) := by decide +kernel
theorem dX10_mean_18 : decode cX10_mean 18 = .ok (.ifCond .ne 10, 3) := by decide +kernel
theorem dX10_mean_21 : decode cX10_mean 21 = .ok (.aload_n 0, 1) := by decide +kernel
theorem dX10_mean_22 : decode cX10_mean 22 = .ok (.iconst 2, 1) := by decide +kernel
theorem dX10_mean_23 : decode cX10_mean 23 = .ok (.invokevirtual 87, 3) := by decide +kernel
theorem dX10_mean_26 : decode cX10_mean 26 = .ok (.i2l, 1) := by decide +kernel
theorem dX10_mean_27 : decode cX10_mean 27 = .ok (.lreturn, 1) := by decide +kernel
theorem dX10_mean_28 : decode cX10_mean 28 = .ok (.aload_n 0, 1) := by decide +kernel
theorem dX10_mean_29 : decode cX10_mean 29 = .ok (.getfield 26, 3) := by decide +kernel
theorem dX10_mean_32 : decode cX10_mean 32 = .ok (.iload_n 1, 1) := by decide +kernel
theorem dX10_mean_33 : decode cX10_mean 33 = .ok (.invokevirtual 154, 3) := by decide +kernel
theorem dX10_mean_36 : decode cX10_mean 36 = .ok (.sipush 900, 3) := by decide +kernel
theorem dX10_mean_39 : decode cX10_mean 39 = .ok (.if_icmp .le 10, 3) := by decide +kernel
theorem dX10_mean_42 : decode cX10_mean 42 = .ok (.aload_n 0, 1) := by decide +kernel
theorem dX10_mean_43 : decode cX10_mean 43 = .ok (.iconst 3, 1) := by decide +kernel
theorem dX10_mean_44 : decode cX10_mean 44 = .ok (.invokevirtual 87, 3) := by decide +kernel
theorem dX10_mean_47 : decode cX10_mean 47 = .ok (.i2l, 1) := by decide +kernel
theorem dX10_mean_48 : decode cX10_mean 48 = .ok (.lreturn, 1) := by decide +kernel
theorem dX10_mean_49 : decode cX10_mean 49 = .ok (.aload_n 0, 1) := by decide +kernel
theorem dX10_mean_50 : decode cX10_mean 50 = .ok (.iload_n 1, 1) := by decide +kernel
theorem dX10_mean_51 : decode cX10_mean 51 = .ok (.aload_n 0, 1) := by decide +kernel
theorem dX10_mean_52 : decode cX10_mean 52 = .ok (.getfield 26, 3) := by decide +kernel
theorem dX10_mean_55 : decode cX10_mean 55 = .ok (.iload_n 1, 1) := by decide +kernel
theorem dX10_mean_56 : decode cX10_mean 56 = .ok (.invokevirtual 154, 3) := by decide +kernel
theorem dX10_mean_59 : decode cX10_mean 59 = .ok (.iload_n 2, 1) := by decide +kernel
theorem dX10_mean_60 : decode cX10_mean 60 = .ok (.iconst 1, 1) := by decide +kernel
theorem dX10_mean_61 : decode cX10_mean 61 = .ok (.invokevirtual 320, 3) := by decide +kernel
theorem dX10_mean_64 : decode cX10_mean 64 = .ok (.iload_n 2, 1) := by decide +kernel
theorem dX10_mean_65 : decode cX10_mean 65 = .ok (.invokestatic 324, 3) := by decide +kernel
theorem dX10_mean_68 : decode cX10_mean 68 = .ok (.iload_n 3, 1) := by decide +kernel
theorem dX10_mean_69 : decode cX10_mean 69 = .ok (.invokestatic 328, 3) := by decide +kernel
theorem dX10_mean_72 : decode cX10_mean 72 = .ok (.lreturn, 1) := by decide +kernel
theorem dX10_drawnHandle_0 : decode cX10_drawnHandle 0 = .ok (.aload_n 0, 1) := by decide +kernel
theorem dX10_drawnHandle_1 : decode cX10_drawnHandle 1 = .ok (.iload_n 1, 1) := by decide +kernel
theorem dX10_drawnHandle_2 : decode cX10_drawnHandle 2 = .ok (.invokevirtual 142, 3) := by decide +kernel
theorem dX10_drawnHandle_5 : decode cX10_drawnHandle 5 = .ok (.ifCond .eq 5, 3) := by decide +kernel
theorem dX10_drawnHandle_8 : decode cX10_drawnHandle 8 = .ok (.iconst (-1), 1) := by decide +kernel
theorem dX10_drawnHandle_9 : decode cX10_drawnHandle 9 = .ok (.ireturn, 1) := by decide +kernel
theorem dX10_drawnHandle_10 : decode cX10_drawnHandle 10 = .ok (.iload_n 2, 1) := by decide +kernel
theorem dX10_drawnHandle_11 : decode cX10_drawnHandle 11 = .ok (.ldc_w 332, 3) := by decide +kernel
theorem dX10_drawnHandle_14 : decode cX10_drawnHandle 14 = .ok (.invokestatic 216, 3) := by decide +kernel
theorem dX10_drawnHandle_17 : decode cX10_drawnHandle 17 = .ok (.ifCond .eq 12, 3) := by decide +kernel
theorem dX10_drawnHandle_20 : decode cX10_drawnHandle 20 = .ok (.iload_n 3, 1) := by decide +kernel
theorem dX10_drawnHandle_21 : decode cX10_drawnHandle 21 = .ok (.bipush 60, 2) := by decide +kernel
theorem dX10_drawnHandle_23 : decode cX10_drawnHandle 23 = .ok (.invokestatic 216, 3) := by decide +kernel
theorem dX10_drawnHandle_26 : decode cX10_drawnHandle 26 = .ok (.ifCond .ne 9, 3) := by decide +kernel
theorem dX10_drawnHandle_29 : decode cX10_drawnHandle 29 = .ok (.aload_n 0, 1) := by decide +kernel
theorem dX10_drawnHandle_30 : decode cX10_drawnHandle 30 = .ok (.iconst 2, 1) := by decide +kernel
theorem dX10_drawnHandle_31 : decode cX10_drawnHandle 31 = .ok (.invokevirtual 87, 3) := by decide +kernel
theorem dX10_drawnHandle_34 : decode cX10_drawnHandle 34 = .ok (.ireturn, 1) := by decide +kernel
theorem dX10_drawnHandle_35 : decode cX10_drawnHandle 35 = .ok (.aload_n 0, 1) := by decide +kernel
theorem dX10_drawnHandle_36 : decode cX10_drawnHandle 36 = .ok (.iload_n 2, 1) := by decide +kernel
theorem dX10_drawnHandle_37 : decode cX10_drawnHandle 37 = .ok (.iload_n 3, 1) := by decide +kernel
theorem dX10_drawnHandle_38 : decode cX10_drawnHandle 38 = .ok (.invokevirtual 333, 3) := by decide +kernel
theorem dX10_drawnHandle_41 : decode cX10_drawnHandle 41 = .ok (.aload_n 0, 1) := by decide +kernel
theorem dX10_drawnHandle_42 : decode cX10_drawnHandle 42 = .ok (.getfield 35, 3) := by decide +kernel
theorem dX10_drawnHandle_45 : decode cX10_drawnHandle 45 = .ok (.getfield 337, 3) := by decide +kernel
theorem dX10_drawnHandle_48 : decode cX10_drawnHandle 48 = .ok (.iload_n 1, 1) := by decide +kernel
theorem dX10_drawnHandle_49 : decode cX10_drawnHandle 49 = .ok (.iaload, 1) := by decide +kernel
theorem dX10_drawnHandle_50 : decode cX10_drawnHandle 50 = .ok (.ireturn, 1) := by decide +kernel
theorem dX10_drawnFed_0 : decode cX10_drawnFed 0 = .ok (.aload_n 0, 1) := by decide +kernel
theorem dX10_drawnFed_1 : decode cX10_drawnFed 1 = .ok (.invokevirtual 187, 3) := by decide +kernel
theorem dX10_drawnFed_4 : decode cX10_drawnFed 4 = .ok (.ifCond .eq 5, 3) := by decide +kernel
theorem dX10_drawnFed_7 : decode cX10_drawnFed 7 = .ok (.iconst (-1), 1) := by decide +kernel
theorem dX10_drawnFed_8 : decode cX10_drawnFed 8 = .ok (.ireturn, 1) := by decide +kernel
theorem dX10_drawnFed_9 : decode cX10_drawnFed 9 = .ok (.iload_n 1, 1) := by decide +kernel
theorem dX10_drawnFed_10 : decode cX10_drawnFed 10 = .ok (.ldc_w 332, 3) := by decide +kernel
theorem dX10_drawnFed_13 : decode cX10_drawnFed 13 = .ok (.invokestatic 216, 3) := by decide +kernel
theorem dX10_drawnFed_16 : decode cX10_drawnFed 16 = .ok (.ifCond .eq 12, 3) := by decide +kernel
theorem dX10_drawnFed_19 : decode cX10_drawnFed 19 = .ok (.iload_n 2, 1) := by decide +kernel
theorem dX10_drawnFed_20 : decode cX10_drawnFed 20 = .ok (.bipush 60, 2) := by decide +kernel
theorem dX10_drawnFed_22 : decode cX10_drawnFed 22 = .ok (.invokestatic 216, 3) := by decide +kernel
theorem dX10_drawnFed_25 : decode cX10_drawnFed 25 = .ok (.ifCond .ne 9, 3) := by decide +kernel
theorem dX10_drawnFed_28 : decode cX10_drawnFed 28 = .ok (.aload_n 0, 1) := by decide +kernel
theorem dX10_drawnFed_29 : decode cX10_drawnFed 29 = .ok (.iconst 2, 1) := by decide +kernel
theorem dX10_drawnFed_30 : decode cX10_drawnFed 30 = .ok (.invokevirtual 87, 3) := by decide +kernel
theorem dX10_drawnFed_33 : decode cX10_drawnFed 33 = .ok (.ireturn, 1) := by decide +kernel
theorem dX10_drawnFed_34 : decode cX10_drawnFed 34 = .ok (.aload_n 0, 1) := by decide +kernel
theorem dX10_drawnFed_35 : decode cX10_drawnFed 35 = .ok (.iload_n 1, 1) := by decide +kernel
theorem dX10_drawnFed_36 : decode cX10_drawnFed 36 = .ok (.iload_n 2, 1) := by decide +kernel
theorem dX10_drawnFed_37 : decode cX10_drawnFed 37 = .ok (.invokevirtual 333, 3) := by decide +kernel
theorem dX10_drawnFed_40 : decode cX10_drawnFed 40 = .ok (.aload_n 0, 1) := by decide +kernel
theorem dX10_drawnFed_41 : decode cX10_drawnFed 41 = .ok (.getfield 35, 3) := by decide +kernel
theorem dX10_drawnFed_44 : decode cX10_drawnFed 44 = .ok (.invokevirtual 251, 3) := by decide +kernel
theorem dX10_drawnFed_47 : decode cX10_drawnFed 47 = .ok (.aload_n 0, 1) := by decide +kernel
theorem dX10_drawnFed_48 : decode cX10_drawnFed 48 = .ok (.getfield 35, 3) := by decide +kernel
theorem dX10_drawnFed_51 : decode cX10_drawnFed 51 = .ok (.invokevirtual 254, 3) := by decide +kernel
theorem dX10_drawnFed_54 : decode cX10_drawnFed 54 = .ok (.ireturn, 1) := by decide +kernel
theorem dX10_year_0 : decode cX10_year 0 = .ok (.aload_n 0, 1) := by decide +kernel
theorem dX10_year_1 : decode cX10_year 1 = .ok (.invokevirtual 187, 3) := by decide +kernel
theorem dX10_year_4 : decode cX10_year 4 = .ok (.ifCond .eq 5, 3) := by decide +kernel
theorem dX10_year_7 : decode cX10_year 7 = .ok (.iconst (-1), 1) := by decide +kernel
theorem dX10_year_8 : decode cX10_year 8 = .ok (.ireturn, 1) := by decide +kernel
theorem dX10_year_9 : decode cX10_year 9 = .ok (.aload_n 0, 1) := by decide +kernel
theorem dX10_year_10 : decode cX10_year 10 = .ok (.getfield 26, 3) := by decide +kernel
theorem dX10_year_13 : decode cX10_year 13 = .ok (.getfield 339, 3) := by decide +kernel
theorem dX10_year_16 : decode cX10_year 16 = .ok (.sipush 999, 3) := by decide +kernel
theorem dX10_year_19 : decode cX10_year 19 = .ok (.if_icmp .lt 9, 3) := by decide +kernel
theorem dX10_year_22 : decode cX10_year 22 = .ok (.aload_n 0, 1) := by decide +kernel
theorem dX10_year_23 : decode cX10_year 23 = .ok (.iconst 3, 1) := by decide +kernel
theorem dX10_year_24 : decode cX10_year 24 = .ok (.invokevirtual 87, 3) := by decide +kernel
theorem dX10_year_27 : decode cX10_year 27 = .ok (.ireturn, 1) := by decide +kernel
theorem dX10_year_28 : decode cX10_year 28 = .ok (.aload_n 0, 1) := by decide +kernel
theorem dX10_year_29 : decode cX10_year 29 = .ok (.getfield 26, 3) := by decide +kernel
theorem dX10_year_32 : decode cX10_year 32 = .ok (.iconst 1, 1) := by decide +kernel
theorem dX10_year_33 : decode cX10_year 33 = .ok (.invokevirtual 342, 3) := by decide +kernel
theorem dX10_year_36 : decode cX10_year 36 = .ok (.aload_n 0, 1) := by decide +kernel
theorem dX10_year_37 : decode cX10_year 37 = .ok (.iconst 0, 1) := by decide +kernel
theorem dX10_year_38 : decode cX10_year 38 = .ok (.iconst 0, 1) := by decide +kernel
theorem dX10_year_39 : decode cX10_year 39 = .ok (.iconst 0, 1) := by decide +kernel
theorem dX10_year_40 : decode cX10_year 40 = .ok (.invokevirtual 345, 3) := by decide +kernel
theorem dX10_year_43 : decode cX10_year 43 = .ok (.aload_n 0, 1) := by decide +kernel
theorem dX10_year_44 : decode cX10_year 44 = .ok (.iconst 0, 1) := by decide +kernel
theorem dX10_year_45 : decode cX10_year 45 = .ok (.invokevirtual 191, 3) := by decide +kernel
theorem dX10_year_48 : decode cX10_year 48 = .ok (.ireturn, 1) := by decide +kernel
theorem dX10_quarrel_0 : decode cX10_quarrel 0 = .ok (.aload_n 0, 1) := by decide +kernel
theorem dX10_quarrel_1 : decode cX10_quarrel 1 = .ok (.iload_n 1, 1) := by decide +kernel
theorem dX10_quarrel_2 : decode cX10_quarrel 2 = .ok (.invokevirtual 142, 3) := by decide +kernel
theorem dX10_quarrel_5 : decode cX10_quarrel 5 = .ok (.ifCond .eq 5, 3) := by decide +kernel
theorem dX10_quarrel_8 : decode cX10_quarrel 8 = .ok (.iconst (-1), 1) := by decide +kernel
theorem dX10_quarrel_9 : decode cX10_quarrel 9 = .ok (.ireturn, 1) := by decide +kernel
theorem dX10_quarrel_10 : decode cX10_quarrel 10 = .ok (.aload_n 0, 1) := by decide +kernel
theorem dX10_quarrel_11 : decode cX10_quarrel 11 = .ok (.getfield 26, 3) := by decide +kernel
theorem dX10_quarrel_14 : decode cX10_quarrel 14 = .ok (.iload_n 1, 1) := by decide +kernel
theorem dX10_quarrel_15 : decode cX10_quarrel 15 = .ok (.invokevirtual 154, 3) := by decide +kernel
theorem dX10_quarrel_18 : decode cX10_quarrel 18 = .ok (.istore_n 2, 1) := by decide +kernel
theorem dX10_quarrel_19 : decode cX10_quarrel 19 = .ok (.aload_n 0, 1) := by decide +kernel
theorem dX10_quarrel_20 : decode cX10_quarrel 20 = .ok (.getfield 26, 3) := by decide +kernel
theorem dX10_quarrel_23 : decode cX10_quarrel 23 = .ok (.getfield 157, 3) := by decide +kernel
theorem dX10_quarrel_26 : decode cX10_quarrel 26 = .ok (.iload_n 1, 1) := by decide +kernel
theorem dX10_quarrel_27 : decode cX10_quarrel 27 = .ok (.iaload, 1) := by decide +kernel
theorem dX10_quarrel_28 : decode cX10_quarrel 28 = .ok (.iconst 2, 1) := by decide +kernel
theorem dX10_quarrel_29 : decode cX10_quarrel 29 = .ok (.if_icmp .eq 7, 3) := by decide +kernel
theorem dX10_quarrel_32 : decode cX10_quarrel 32 = .ok (.iload_n 2, 1) := by decide +kernel
theorem dX10_quarrel_33 : decode cX10_quarrel 33 = .ok (.ifCond .ne 9, 3) := by decide +kernel
theorem dX10_quarrel_36 : decode cX10_quarrel 36 = .ok (.aload_n 0, 1) := by decide +kernel
theorem dX10_quarrel_37 : decode cX10_quarrel 37 = .ok (.iconst 5, 1) := by decide +kernel
theorem dX10_quarrel_38 : decode cX10_quarrel 38 = .ok (.invokevirtual 87, 3) := by decide +kernel
theorem dX10_quarrel_41 : decode cX10_quarrel 41 = .ok (.ireturn, 1) := by decide +kernel
theorem dX10_quarrel_42 : decode cX10_quarrel 42 = .ok (.aload_n 0, 1) := by decide +kernel
theorem dX10_quarrel_43 : decode cX10_quarrel 43 = .ok (.getfield 22, 3) := by decide +kernel
theorem dX10_quarrel_46 : decode cX10_quarrel 46 = .ok (.getfield 349, 3) := by decide +kernel
theorem dX10_quarrel_49 : decode cX10_quarrel 49 = .ok (.iload_n 2, 1) := by decide +kernel
theorem dX10_quarrel_50 : decode cX10_quarrel 50 = .ok (.invokestatic 352, 3) := by decide +kernel
theorem dX10_quarrel_53 : decode cX10_quarrel 53 = .ok (.istore_n 3, 1) := by decide +kernel
theorem dX10_quarrel_54 : decode cX10_quarrel 54 = .ok (.aload_n 0, 1) := by decide +kernel
theorem dX10_quarrel_55 : decode cX10_quarrel 55 = .ok (.getfield 26, 3) := by decide +kernel
theorem dX10_quarrel_58 : decode cX10_quarrel 58 = .ok (.getfield 160, 3) := by decide +kernel
theorem dX10_quarrel_61 : decode cX10_quarrel 61 = .ok (.iload_n 1, 1) := by decide +kernel
theorem dX10_quarrel_62 : decode cX10_quarrel 62 = .ok (.dup2, 1) := by decide +kernel
theorem dX10_quarrel_63 : decode cX10_quarrel 63 = .ok (.iaload, 1) := by decide +kernel
theorem dX10_quarrel_64 : decode cX10_quarrel 64 = .ok (.iload_n 3, 1) := by decide +kernel
theorem dX10_quarrel_65 : decode cX10_quarrel 65 = .ok (.iadd, 1) := by decide +kernel
theorem dX10_quarrel_66 : decode cX10_quarrel 66 = .ok (.iastore, 1) := by decide +kernel
theorem dX10_quarrel_67 : decode cX10_quarrel 67 = .ok (.aload_n 0, 1) := by decide +kernel
theorem dX10_quarrel_68 : decode cX10_quarrel 68 = .ok (.iconst 1, 1) := by decide +kernel
theorem dX10_quarrel_69 : decode cX10_quarrel 69 = .ok (.iload_n 1, 1) := by decide +kernel
theorem dX10_quarrel_70 : decode cX10_quarrel 70 = .ok (.iload_n 3, 1) := by decide +kernel
theorem dX10_quarrel_71 : decode cX10_quarrel 71 = .ok (.invokevirtual 345, 3) := by decide +kernel
theorem dX10_quarrel_74 : decode cX10_quarrel 74 = .ok (.aload_n 0, 1) := by decide +kernel
theorem dX10_quarrel_75 : decode cX10_quarrel 75 = .ok (.getfield 26, 3) := by decide +kernel
theorem dX10_quarrel_78 : decode cX10_quarrel 78 = .ok (.iload_n 1, 1) := by decide +kernel
theorem dX10_quarrel_79 : decode cX10_quarrel 79 = .ok (.invokevirtual 154, 3) := by decide +kernel
theorem dX10_quarrel_82 : decode cX10_quarrel 82 = .ok (.ireturn, 1) := by decide +kernel
theorem dX10_sit_0 : decode cX10_sit 0 = .ok (.aload_n 0, 1) := by decide +kernel
theorem dX10_sit_1 : decode cX10_sit 1 = .ok (.iload_n 1, 1) := by decide +kernel
theorem dX10_sit_2 : decode cX10_sit 2 = .ok (.invokevirtual 135, 3) := by decide +kernel
theorem dX10_sit_5 : decode cX10_sit 5 = .ok (.ifCond .eq 5, 3) := by decide +kernel
theorem dX10_sit_8 : decode cX10_sit 8 = .ok (.iconst (-1), 1) := by decide +kernel
theorem dX10_sit_9 : decode cX10_sit 9 = .ok (.ireturn, 1) := by decide +kernel
theorem dX10_sit_10 : decode cX10_sit 10 = .ok (.iload_n 2, 1) := by decide +kernel
theorem dX10_sit_11 : decode cX10_sit 11 = .ok (.ifCond .lt 14, 3) := by decide +kernel
theorem dX10_sit_14 : decode cX10_sit 14 = .ok (.iload_n 2, 1) := by decide +kernel
theorem dX10_sit_15 : decode cX10_sit 15 = .ok (.aload_n 0, 1) := by decide +kernel
theorem dX10_sit_16 : decode cX10_sit 16 = .ok (.getfield 22, 3) := by decide +kernel
theorem dX10_sit_19 : decode cX10_sit 19 = .ok (.getfield 241, 3) := by decide +kernel
theorem dX10_sit_22 : decode cX10_sit 22 = .ok (.if_icmp .lt 9, 3) := by decide +kernel
theorem dX10_sit_25 : decode cX10_sit 25 = .ok (.aload_n 0, 1) := by decide +kernel
theorem dX10_sit_26 : decode cX10_sit 26 = .ok (.iconst 2, 1) := by decide +kernel
theorem dX10_sit_27 : decode cX10_sit 27 = .ok (.invokevirtual 87, 3) := by decide +kernel
theorem dX10_sit_30 : decode cX10_sit 30 = .ok (.ireturn, 1) := by decide +kernel
theorem dX10_sit_31 : decode cX10_sit 31 = .ok (.aload_n 0, 1) := by decide +kernel
theorem dX10_sit_32 : decode cX10_sit 32 = .ok (.iload_n 2, 1) := by decide +kernel
theorem dX10_sit_33 : decode cX10_sit 33 = .ok (.invokevirtual 244, 3) := by decide +kernel
theorem dX10_sit_36 : decode cX10_sit 36 = .ok (.ifCond .ne 9, 3) := by decide +kernel
theorem dX10_sit_39 : decode cX10_sit 39 = .ok (.aload_n 0, 1) := by decide +kernel
theorem dX10_sit_40 : decode cX10_sit 40 = .ok (.iconst 5, 1) := by decide +kernel
theorem dX10_sit_41 : decode cX10_sit 41 = .ok (.invokevirtual 87, 3) := by decide +kernel
theorem dX10_sit_44 : decode cX10_sit 44 = .ok (.ireturn, 1) := by decide +kernel
theorem dX10_sit_45 : decode cX10_sit 45 = .ok (.aload_n 0, 1) := by decide +kernel
theorem dX10_sit_46 : decode cX10_sit 46 = .ok (.getfield 26, 3) := by decide +kernel
theorem dX10_sit_49 : decode cX10_sit 49 = .ok (.getfield 138, 3) := by decide +kernel
theorem dX10_sit_52 : decode cX10_sit 52 = .ok (.iload_n 1, 1) := by decide +kernel
theorem dX10_sit_53 : decode cX10_sit 53 = .ok (.iaload, 1) := by decide +kernel
theorem dX10_sit_54 : decode cX10_sit 54 = .ok (.istore_n 3, 1) := by decide +kernel
theorem dX10_sit_55 : decode cX10_sit 55 = .ok (.aload_n 0, 1) := by decide +kernel
theorem dX10_sit_56 : decode cX10_sit 56 = .ok (.getfield 26, 3) := by decide +kernel
theorem dX10_sit_59 : decode cX10_sit 59 = .ok (.getfield 138, 3) := by decide +kernel
theorem dX10_sit_62 : decode cX10_sit 62 = .ok (.iload_n 1, 1) := by decide +kernel
theorem dX10_sit_63 : decode cX10_sit 63 = .ok (.iload_n 2, 1) := by decide +kernel
theorem dX10_sit_64 : decode cX10_sit 64 = .ok (.iastore, 1) := by decide +kernel
theorem dX10_sit_65 : decode cX10_sit 65 = .ok (.aload_n 0, 1) := by decide +kernel
theorem dX10_sit_66 : decode cX10_sit 66 = .ok (.iconst 2, 1) := by decide +kernel
theorem dX10_sit_67 : decode cX10_sit 67 = .ok (.iload_n 1, 1) := by decide +kernel
theorem dX10_sit_68 : decode cX10_sit 68 = .ok (.iload_n 3, 1) := by decide +kernel
theorem dX10_sit_69 : decode cX10_sit 69 = .ok (.invokevirtual 345, 3) := by decide +kernel
theorem dX10_sit_72 : decode cX10_sit 72 = .ok (.iload_n 3, 1) := by decide +kernel
theorem dX10_sit_73 : decode cX10_sit 73 = .ok (.ireturn, 1) := by decide +kernel
theorem dX10_know_0 : decode cX10_know 0 = .ok (.aload_n 0, 1) := by decide +kernel
theorem dX10_know_1 : decode cX10_know 1 = .ok (.iload_n 1, 1) := by decide +kernel
theorem dX10_know_2 : decode cX10_know 2 = .ok (.iload_n 2, 1) := by decide +kernel
theorem dX10_know_3 : decode cX10_know 3 = .ok (.invokevirtual 173, 3) := by decide +kernel
theorem dX10_know_6 : decode cX10_know 6 = .ok (.ifCond .eq 5, 3) := by decide +kernel
theorem dX10_know_9 : decode cX10_know 9 = .ok (.iconst (-1), 1) := by decide +kernel
theorem dX10_know_10 : decode cX10_know 10 = .ok (.ireturn, 1) := by decide +kernel
theorem dX10_know_11 : decode cX10_know 11 = .ok (.aload_n 0, 1) := by decide +kernel
theorem dX10_know_12 : decode cX10_know 12 = .ok (.getfield 26, 3) := by decide +kernel
theorem dX10_know_15 : decode cX10_know 15 = .ok (.iload_n 1, 1) := by decide +kernel
theorem dX10_know_16 : decode cX10_know 16 = .ok (.iload_n 2, 1) := by decide +kernel
theorem dX10_know_17 : decode cX10_know 17 = .ok (.invokevirtual 177, 3) := by decide +kernel
theorem dX10_know_20 : decode cX10_know 20 = .ok (.ifCond .lt 9, 3) := by decide +kernel
theorem dX10_know_23 : decode cX10_know 23 = .ok (.aload_n 0, 1) := by decide +kernel
theorem dX10_know_24 : decode cX10_know 24 = .ok (.iconst 5, 1) := by decide +kernel
theorem dX10_know_25 : decode cX10_know 25 = .ok (.invokevirtual 87, 3) := by decide +kernel
theorem dX10_know_28 : decode cX10_know 28 = .ok (.ireturn, 1) := by decide +kernel
theorem dX10_know_29 : decode cX10_know 29 = .ok (.aload_n 0, 1) := by decide +kernel
theorem dX10_know_30 : decode cX10_know 30 = .ok (.getfield 26, 3) := by decide +kernel
theorem dX10_know_33 : decode cX10_know 33 = .ok (.iload_n 1, 1) := by decide +kernel
theorem dX10_know_34 : decode cX10_know 34 = .ok (.iload_n 2, 1) := by decide +kernel
theorem dX10_know_35 : decode cX10_know 35 = .ok (.iconst 0, 1) := by decide +kernel
theorem dX10_know_36 : decode cX10_know 36 = .ok (.iconst 0, 1) := by decide +kernel
theorem dX10_know_37 : decode cX10_know 37 = .ok (.invokevirtual 357, 3) := by decide +kernel
theorem dX10_know_40 : decode cX10_know 40 = .ok (.aload_n 0, 1) := by decide +kernel
theorem dX10_know_41 : decode cX10_know 41 = .ok (.iconst 3, 1) := by decide +kernel
theorem dX10_know_42 : decode cX10_know 42 = .ok (.iconst 0, 1) := by decide +kernel
theorem dX10_know_43 : decode cX10_know 43 = .ok (.iconst 0, 1) := by decide +kernel
theorem dX10_know_44 : decode cX10_know 44 = .ok (.invokevirtual 345, 3) := by decide +kernel
theorem dX10_know_47 : decode cX10_know 47 = .ok (.aload_n 0, 1) := by decide +kernel
theorem dX10_know_48 : decode cX10_know 48 = .ok (.getfield 26, 3) := by decide +kernel
theorem dX10_know_51 : decode cX10_know 51 = .ok (.getfield 282, 3) := by decide +kernel
theorem dX10_know_54 : decode cX10_know 54 = .ok (.iconst 1, 1) := by decide +kernel
theorem dX10_know_55 : decode cX10_know 55 = .ok (.isub, 1) := by decide +kernel
theorem dX10_know_56 : decode cX10_know 56 = .ok (.ireturn, 1) := by decide +kernel
theorem dX10_undo_0 : decode cX10_undo 0 = .ok (.aload_n 0, 1) := by decide +kernel
theorem dX10_undo_1 : decode cX10_undo 1 = .ok (.getfield 65, 3) := by decide +kernel
theorem dX10_undo_4 : decode cX10_undo 4 = .ok (.getfield 122, 3) := by decide +kernel
theorem dX10_undo_7 : decode cX10_undo 7 = .ok (.ifCond .ne 11, 3) := by decide +kernel
theorem dX10_undo_10 : decode cX10_undo 10 = .ok (.aload_n 0, 1) := by decide +kernel
theorem dX10_undo_11 : decode cX10_undo 11 = .ok (.bipush 6, 2) := by decide +kernel
theorem dX10_undo_13 : decode cX10_undo 13 = .ok (.putfield 107, 3) := by decide +kernel
theorem dX10_undo_16 : decode cX10_undo 16 = .ok (.iconst 0, 1) := by decide +kernel
theorem dX10_undo_17 : decode cX10_undo 17 = .ok (.ireturn, 1) := by decide +kernel
theorem dX10_undo_18 : decode cX10_undo 18 = .ok (.aload_n 0, 1) := by decide +kernel
theorem dX10_undo_19 : decode cX10_undo 19 = .ok (.iconst 0, 1) := by decide +kernel
theorem dX10_undo_20 : decode cX10_undo 20 = .ok (.putfield 107, 3) := by decide +kernel
theorem dX10_undo_23 : decode cX10_undo 23 = .ok (.aload_n 0, 1) := by decide +kernel
theorem dX10_undo_24 : decode cX10_undo 24 = .ok (.aload_n 0, 1) := by decide +kernel
theorem dX10_undo_25 : decode cX10_undo 25 = .ok (.getfield 65, 3) := by decide +kernel
theorem dX10_undo_28 : decode cX10_undo 28 = .ok (.invokevirtual 361, 3) := by decide +kernel
theorem dX10_undo_31 : decode cX10_undo 31 = .ok (.invokevirtual 364, 3) := by decide +kernel
theorem dX10_undo_34 : decode cX10_undo 34 = .ok (.aload_n 0, 1) := by decide +kernel
theorem dX10_undo_35 : decode cX10_undo 35 = .ok (.getfield 42, 3) := by decide +kernel
theorem dX10_undo_38 : decode cX10_undo 38 = .ok (.iconst 0, 1) := by decide +kernel
theorem dX10_undo_39 : decode cX10_undo 39 = .ok (.putfield 128, 3) := by decide +kernel
theorem dX10_undo_42 : decode cX10_undo 42 = .ok (.iconst 1, 1) := by decide +kernel
theorem dX10_undo_43 : decode cX10_undo 43 = .ok (.ireturn, 1) := by decide +kernel
theorem dX10_image_0 : decode cX10_image 0 = .ok (.aload_n 0, 1) := by decide +kernel
theorem dX10_image_1 : decode cX10_image 1 = .ok (.invokevirtual 187, 3) := by decide +kernel
theorem dX10_image_4 : decode cX10_image 4 = .ok (.ifCond .eq 5, 3) := by decide +kernel
theorem dX10_image_7 : decode cX10_image 7 = .ok (.iconst (-1), 1) := by decide +kernel
theorem dX10_image_8 : decode cX10_image 8 = .ok (.ireturn, 1) := by decide +kernel
theorem dX10_image_9 : decode cX10_image 9 = .ok (.aload_n 0, 1) := by decide +kernel
theorem dX10_image_10 : decode cX10_image 10 = .ok (.getfield 125, 3) := by decide +kernel
theorem dX10_image_13 : decode cX10_image 13 = .ok (.iconst 3, 1) := by decide +kernel
theorem dX10_image_14 : decode cX10_image 14 = .ok (.if_icmp .lt 9, 3) := by decide +kernel
theorem dX10_image_17 : decode cX10_image 17 = .ok (.aload_n 0, 1) := by decide +kernel
theorem dX10_image_18 : decode cX10_image 18 = .ok (.iconst 3, 1) := by decide +kernel
theorem dX10_image_19 : decode cX10_image 19 = .ok (.invokevirtual 87, 3) := by decide +kernel
theorem dX10_image_22 : decode cX10_image 22 = .ok (.ireturn, 1) := by decide +kernel
theorem dX10_image_23 : decode cX10_image 23 = .ok (.aload_n 0, 1) := by decide +kernel
theorem dX10_image_24 : decode cX10_image 24 = .ok (.getfield 69, 3) := by decide +kernel
theorem dX10_image_27 : decode cX10_image 27 = .ok (.aload_n 0, 1) := by decide +kernel
theorem dX10_image_28 : decode cX10_image 28 = .ok (.getfield 125, 3) := by decide +kernel
theorem dX10_image_31 : decode cX10_image 31 = .ok (.aaload, 1) := by decide +kernel
theorem dX10_image_32 : decode cX10_image 32 = .ok (.aload_n 0, 1) := by decide +kernel
theorem dX10_image_33 : decode cX10_image 33 = .ok (.getfield 26, 3) := by decide +kernel
theorem dX10_image_36 : decode cX10_image 36 = .ok (.invokevirtual 119, 3) := by decide +kernel
theorem dX10_image_39 : decode cX10_image 39 = .ok (.aload_n 0, 1) := by decide +kernel
theorem dX10_image_40 : decode cX10_image 40 = .ok (.dup, 1) := by decide +kernel
theorem dX10_image_41 : decode cX10_image 41 = .ok (.getfield 125, 3) := by decide +kernel
theorem dX10_image_44 : decode cX10_image 44 = .ok (.iconst 1, 1) := by decide +kernel
theorem dX10_image_45 : decode cX10_image 45 = .ok (.iadd, 1) := by decide +kernel
theorem dX10_image_46 : decode cX10_image 46 = .ok (.putfield 125, 3) := by decide +kernel
theorem dX10_image_49 : decode cX10_image 49 = .ok (.aload_n 0, 1) := by decide +kernel
theorem dX10_image_50 : decode cX10_image 50 = .ok (.getfield 125, 3) := by decide +kernel
theorem dX10_image_53 : decode cX10_image 53 = .ok (.iconst 1, 1) := by decide +kernel
theorem dX10_image_54 : decode cX10_image 54 = .ok (.isub, 1) := by decide +kernel
theorem dX10_image_55 : decode cX10_image 55 = .ok (.ireturn, 1) := by decide +kernel
theorem dX10_back_0 : decode cX10_back 0 = .ok (.iload_n 1, 1) := by decide +kernel
theorem dX10_back_1 : decode cX10_back 1 = .ok (.ifCond .lt 11, 3) := by decide +kernel
theorem dX10_back_4 : decode cX10_back 4 = .ok (.iload_n 1, 1) := by decide +kernel
theorem dX10_back_5 : decode cX10_back 5 = .ok (.aload_n 0, 1) := by decide +kernel
theorem dX10_back_6 : decode cX10_back 6 = .ok (.getfield 125, 3) := by decide +kernel
theorem dX10_back_9 : decode cX10_back 9 = .ok (.if_icmp .lt 10, 3) := by decide +kernel
theorem dX10_back_12 : decode cX10_back 12 = .ok (.aload_n 0, 1) := by decide +kernel
theorem dX10_back_13 : decode cX10_back 13 = .ok (.iconst 1, 1) := by decide +kernel
theorem dX10_back_14 : decode cX10_back 14 = .ok (.putfield 107, 3) := by decide +kernel
theorem dX10_back_17 : decode cX10_back 17 = .ok (.iconst 0, 1) := by decide +kernel
theorem dX10_back_18 : decode cX10_back 18 = .ok (.ireturn, 1) := by decide +kernel
theorem dX10_back_19 : decode cX10_back 19 = .ok (.aload_n 0, 1) := by decide +kernel
theorem dX10_back_20 : decode cX10_back 20 = .ok (.iconst 0, 1) := by decide +kernel
theorem dX10_back_21 : decode cX10_back 21 = .ok (.putfield 107, 3) := by decide +kernel
theorem dX10_back_24 : decode cX10_back 24 = .ok (.aload_n 0, 1) := by decide +kernel
theorem dX10_back_25 : decode cX10_back 25 = .ok (.getfield 26, 3) := by decide +kernel
theorem dX10_back_28 : decode cX10_back 28 = .ok (.aload_n 0, 1) := by decide +kernel
theorem dX10_back_29 : decode cX10_back 29 = .ok (.getfield 69, 3) := by decide +kernel
theorem dX10_back_32 : decode cX10_back 32 = .ok (.iload_n 1, 1) := by decide +kernel
theorem dX10_back_33 : decode cX10_back 33 = .ok (.aaload, 1) := by decide +kernel
theorem dX10_back_34 : decode cX10_back 34 = .ok (.invokevirtual 119, 3) := by decide +kernel
theorem dX10_back_37 : decode cX10_back 37 = .ok (.aload_n 0, 1) := by decide +kernel
theorem dX10_back_38 : decode cX10_back 38 = .ok (.getfield 65, 3) := by decide +kernel
theorem dX10_back_41 : decode cX10_back 41 = .ok (.iconst 0, 1) := by decide +kernel
theorem dX10_back_42 : decode cX10_back 42 = .ok (.putfield 122, 3) := by decide +kernel
theorem dX10_back_45 : decode cX10_back 45 = .ok (.aload_n 0, 1) := by decide +kernel
theorem dX10_back_46 : decode cX10_back 46 = .ok (.getfield 42, 3) := by decide +kernel
theorem dX10_back_49 : decode cX10_back 49 = .ok (.iconst 0, 1) := by decide +kernel
theorem dX10_back_50 : decode cX10_back 50 = .ok (.putfield 128, 3) := by decide +kernel
theorem dX10_back_53 : decode cX10_back 53 = .ok (.iconst 1, 1) := by decide +kernel
theorem dX10_back_54 : decode cX10_back 54 = .ok (.ireturn, 1) := by decide +kernel
theorem dX10_led_0 : decode cX10_led 0 = .ok (.iconst 0, 1) := by decide +kernel
theorem dX10_led_1 : decode cX10_led 1 = .ok (.istore_n 2, 1) := by decide +kernel
theorem dX10_led_2 : decode cX10_led 2 = .ok (.iconst 0, 1) := by decide +kernel
theorem dX10_led_3 : decode cX10_led 3 = .ok (.istore_n 3, 1) := by decide +kernel
theorem dX10_led_4 : decode cX10_led 4 = .ok (.iload_n 3, 1) := by decide +kernel
theorem dX10_led_5 : decode cX10_led 5 = .ok (.aload_n 0, 1) := by decide +kernel
theorem dX10_led_6 : decode cX10_led 6 = .ok (.getfield 22, 3) := by decide +kernel
theorem dX10_led_9 : decode cX10_led 9 = .ok (.getfield 132, 3) := by decide +kernel
theorem dX10_led_12 : decode cX10_led 12 = .ok (.if_icmp .ge 27, 3) := by decide +kernel
theorem dX10_led_15 : decode cX10_led 15 = .ok (.aload_n 0, 1) := by decide +kernel
theorem dX10_led_16 : decode cX10_led 16 = .ok (.iload_n 3, 1) := by decide +kernel
theorem dX10_led_17 : decode cX10_led 17 = .ok (.invokevirtual 181, 3) := by decide +kernel
theorem dX10_led_20 : decode cX10_led 20 = .ok (.ifCond .ne 13, 3) := by decide +kernel
theorem dX10_led_23 : decode cX10_led 23 = .ok (.iload_n 2, 1) := by decide +kernel
theorem dX10_led_24 : decode cX10_led 24 = .ok (.iload_n 1, 1) := by decide +kernel
theorem dX10_led_25 : decode cX10_led 25 = .ok (.if_icmp .ne 5, 3) := by decide +kernel
theorem dX10_led_28 : decode cX10_led 28 = .ok (.iload_n 3, 1) := by decide +kernel
theorem dX10_led_29 : decode cX10_led 29 = .ok (.ireturn, 1) := by decide +kernel
theorem dX10_led_30 : decode cX10_led 30 = .ok (.iinc 2 1, 3) := by decide +kernel
theorem dX10_led_33 : decode cX10_led 33 = .ok (.iinc 3 1, 3) := by decide +kernel
theorem dX10_led_36 : decode cX10_led 36 = .ok (.goto (-32), 3) := by decide +kernel
theorem dX10_led_39 : decode cX10_led 39 = .ok (.new 367, 3) := by decide +kernel
theorem dX10_led_42 : decode cX10_led 42 = .ok (.dup, 1) := by decide +kernel
theorem dX10_led_43 : decode cX10_led 43 = .ok (.invokespecial 369, 3) := by decide +kernel
theorem dX10_led_46 : decode cX10_led 46 = .ok (.athrow, 1) := by decide +kernel
theorem dX10_size_0 : decode cX10_size 0 = .ok (.iload_n 1, 1) := by decide +kernel
theorem dX10_size_1 : decode cX10_size 1 = .ok (.tableswitch 174 0 12 #[67, 75, 83, 91, 99, 107, 118, 126, 134, 142, 150, 158, 163], 67) := by decide +kernel
theorem dX10_size_68 : decode cX10_size 68 = .ok (.aload_n 0, 1) := by decide +kernel
theorem dX10_size_69 : decode cX10_size 69 = .ok (.getfield 22, 3) := by decide +kernel
theorem dX10_size_72 : decode cX10_size 72 = .ok (.getfield 241, 3) := by decide +kernel
theorem dX10_size_75 : decode cX10_size 75 = .ok (.ireturn, 1) := by decide +kernel
theorem dX10_size_76 : decode cX10_size 76 = .ok (.aload_n 0, 1) := by decide +kernel
theorem dX10_size_77 : decode cX10_size 77 = .ok (.getfield 22, 3) := by decide +kernel
theorem dX10_size_80 : decode cX10_size 80 = .ok (.getfield 370, 3) := by decide +kernel
theorem dX10_size_83 : decode cX10_size 83 = .ok (.ireturn, 1) := by decide +kernel
theorem dX10_size_84 : decode cX10_size 84 = .ok (.aload_n 0, 1) := by decide +kernel
theorem dX10_size_85 : decode cX10_size 85 = .ok (.getfield 22, 3) := by decide +kernel
theorem dX10_size_88 : decode cX10_size 88 = .ok (.getfield 349, 3) := by decide +kernel
theorem dX10_size_91 : decode cX10_size 91 = .ok (.ireturn, 1) := by decide +kernel
theorem dX10_size_92 : decode cX10_size 92 = .ok (.aload_n 0, 1) := by decide +kernel
theorem dX10_size_93 : decode cX10_size 93 = .ok (.getfield 22, 3) := by decide +kernel
theorem dX10_size_96 : decode cX10_size 96 = .ok (.getfield 373, 3) := by decide +kernel
theorem dX10_size_99 : decode cX10_size 99 = .ok (.ireturn, 1) := by decide +kernel
theorem dX10_size_100 : decode cX10_size 100 = .ok (.aload_n 0, 1) := by decide +kernel
theorem dX10_size_101 : decode cX10_size 101 = .ok (.getfield 22, 3) := by decide +kernel
theorem dX10_size_104 : decode cX10_size 104 = .ok (.getfield 132, 3) := by decide +kernel
theorem dX10_size_107 : decode cX10_size 107 = .ok (.ireturn, 1) := by decide +kernel
theorem dX10_size_108 : decode cX10_size 108 = .ok (.aload_n 0, 1) := by decide +kernel
theorem dX10_size_109 : decode cX10_size 109 = .ok (.getfield 22, 3) := by decide +kernel
theorem dX10_size_112 : decode cX10_size 112 = .ok (.getfield 166, 3) := by decide +kernel
theorem dX10_size_115 : decode cX10_size 115 = .ok (.invokestatic 376, 3) := by decide +kernel
theorem dX10_size_118 : decode cX10_size 118 = .ok (.ireturn, 1) := by decide +kernel
theorem dX10_size_119 : decode cX10_size 119 = .ok (.aload_n 0, 1) := by decide +kernel
theorem dX10_size_120 : decode cX10_size 120 = .ok (.getfield 26, 3) := by decide +kernel
theorem dX10_size_123 : decode cX10_size 123 = .ok (.getfield 282, 3) := by decide +kernel
theorem dX10_size_126 : decode cX10_size 126 = .ok (.ireturn, 1) := by decide +kernel
theorem dX10_size_127 : decode cX10_size 127 = .ok (.aload_n 0, 1) := by decide +kernel
theorem dX10_size_128 : decode cX10_size 128 = .ok (.getfield 22, 3) := by decide +kernel
theorem dX10_size_131 : decode cX10_size 131 = .ok (.getfield 295, 3) := by decide +kernel
theorem dX10_size_134 : decode cX10_size 134 = .ok (.ireturn, 1) := by decide +kernel
theorem dX10_size_135 : decode cX10_size 135 = .ok (.aload_n 0, 1) := by decide +kernel
theorem dX10_size_136 : decode cX10_size 136 = .ok (.getfield 22, 3) := by decide +kernel
theorem dX10_size_139 : decode cX10_size 139 = .ok (.getfield 304, 3) := by decide +kernel
theorem dX10_size_142 : decode cX10_size 142 = .ok (.ireturn, 1) := by decide +kernel
theorem dX10_size_143 : decode cX10_size 143 = .ok (.aload_n 0, 1) := by decide +kernel
theorem dX10_size_144 : decode cX10_size 144 = .ok (.getfield 26, 3) := by decide +kernel
theorem dX10_size_147 : decode cX10_size 147 = .ok (.getfield 339, 3) := by decide +kernel
theorem dX10_size_150 : decode cX10_size 150 = .ok (.ireturn, 1) := by decide +kernel
theorem dX10_size_151 : decode cX10_size 151 = .ok (.aload_n 0, 1) := by decide +kernel
theorem dX10_size_152 : decode cX10_size 152 = .ok (.getfield 65, 3) := by decide +kernel
theorem dX10_size_155 : decode cX10_size 155 = .ok (.getfield 122, 3) := by decide +kernel
theorem dX10_size_158 : decode cX10_size 158 = .ok (.ireturn, 1) := by decide +kernel
theorem dX10_size_159 : decode cX10_size 159 = .ok (.aload_n 0, 1) := by decide +kernel
theorem dX10_size_160 : decode cX10_size 160 = .ok (.getfield 125, 3) := by decide +kernel
theorem dX10_size_163 : decode cX10_size 163 = .ok (.ireturn, 1) := by decide +kernel
theorem dX10_size_164 : decode cX10_size 164 = .ok (.aload_n 0, 1) := by decide +kernel
theorem dX10_size_165 : decode cX10_size 165 = .ok (.getfield 18, 3) := by decide +kernel
theorem dX10_size_168 : decode cX10_size 168 = .ok (.getfield 73, 3) := by decide +kernel
theorem dX10_size_171 : decode cX10_size 171 = .ok (.getfield 77, 3) := by decide +kernel
theorem dX10_size_174 : decode cX10_size 174 = .ok (.ireturn, 1) := by decide +kernel
theorem dX10_size_175 : decode cX10_size 175 = .ok (.iconst (-1), 1) := by decide +kernel
theorem dX10_size_176 : decode cX10_size 176 = .ok (.ireturn, 1) := by decide +kernel
theorem dX10_trouble_0 : decode cX10_trouble 0 = .ok (.aload_n 0, 1) := by decide +kernel
theorem dX10_trouble_1 : decode cX10_trouble 1 = .ok (.getfield 107, 3) := by decide +kernel
theorem dX10_trouble_4 : decode cX10_trouble 4 = .ok (.ireturn, 1) := by decide +kernel
theorem dX10_refused_0 : decode cX10_refused 0 = .ok (.aload_n 0, 1) := by decide +kernel
theorem dX10_refused_1 : decode cX10_refused 1 = .ok (.iload_n 1, 1) := by decide +kernel
theorem dX10_refused_2 : decode cX10_refused 2 = .ok (.putfield 107, 3) := by decide +kernel
theorem dX10_refused_5 : decode cX10_refused 5 = .ok (.iconst (-1), 1) := by decide +kernel
theorem dX10_refused_6 : decode cX10_refused 6 = .ok (.ireturn, 1) := by decide +kernel
theorem dX10_noTable_0 : decode cX10_noTable 0 = .ok (.aload_n 0, 1) := by decide +kernel
theorem dX10_noTable_1 : decode cX10_noTable 1 = .ok (.aload_n 0, 1) := by decide +kernel
theorem dX10_noTable_2 : decode cX10_noTable 2 = .ok (.getfield 22, 3) := by decide +kernel
theorem dX10_noTable_5 : decode cX10_noTable 5 = .ok (.getfield 132, 3) := by decide +kernel
theorem dX10_noTable_8 : decode cX10_noTable 8 = .ok (.ifCond .le 7, 3) := by decide +kernel
theorem dX10_noTable_11 : decode cX10_noTable 11 = .ok (.iconst 1, 1) := by decide +kernel
theorem dX10_noTable_12 : decode cX10_noTable 12 = .ok (.goto 4, 3) := by decide +kernel
theorem dX10_noTable_15 : decode cX10_noTable 15 = .ok (.iconst 0, 1) := by decide +kernel
theorem dX10_noTable_16 : decode cX10_noTable 16 = .ok (.invokevirtual 381, 3) := by decide +kernel
theorem dX10_noTable_19 : decode cX10_noTable 19 = .ok (.ireturn, 1) := by decide +kernel
theorem dX10_noPerson_0 : decode cX10_noPerson 0 = .ok (.aload_n 0, 1) := by decide +kernel
theorem dX10_noPerson_1 : decode cX10_noPerson 1 = .ok (.iload_n 1, 1) := by decide +kernel
theorem dX10_noPerson_2 : decode cX10_noPerson 2 = .ok (.ifCond .lt 18, 3) := by decide +kernel
theorem dX10_noPerson_5 : decode cX10_noPerson 5 = .ok (.iload_n 1, 1) := by decide +kernel
theorem dX10_noPerson_6 : decode cX10_noPerson 6 = .ok (.aload_n 0, 1) := by decide +kernel
theorem dX10_noPerson_7 : decode cX10_noPerson 7 = .ok (.getfield 22, 3) := by decide +kernel
theorem dX10_noPerson_10 : decode cX10_noPerson 10 = .ok (.getfield 132, 3) := by decide +kernel
theorem dX10_noPerson_13 : decode cX10_noPerson 13 = .ok (.if_icmp .ge 7, 3) := by decide +kernel
theorem dX10_noPerson_16 : decode cX10_noPerson 16 = .ok (.iconst 1, 1) := by decide +kernel
theorem dX10_noPerson_17 : decode cX10_noPerson 17 = .ok (.goto 4, 3) := by decide +kernel
theorem dX10_noPerson_20 : decode cX10_noPerson 20 = .ok (.iconst 0, 1) := by decide +kernel
theorem dX10_noPerson_21 : decode cX10_noPerson 21 = .ok (.invokevirtual 381, 3) := by decide +kernel
theorem dX10_noPerson_24 : decode cX10_noPerson 24 = .ok (.ireturn, 1) := by decide +kernel
theorem dX10_noTwo_0 : decode cX10_noTwo 0 = .ok (.aload_n 0, 1) := by decide +kernel
theorem dX10_noTwo_1 : decode cX10_noTwo 1 = .ok (.iload_n 1, 1) := by decide +kernel
theorem dX10_noTwo_2 : decode cX10_noTwo 2 = .ok (.ifCond .lt 38, 3) := by decide +kernel
theorem dX10_noTwo_5 : decode cX10_noTwo 5 = .ok (.iload_n 1, 1) := by decide +kernel
theorem dX10_noTwo_6 : decode cX10_noTwo 6 = .ok (.aload_n 0, 1) := by decide +kernel
theorem dX10_noTwo_7 : decode cX10_noTwo 7 = .ok (.getfield 22, 3) := by decide +kernel
theorem dX10_noTwo_10 : decode cX10_noTwo 10 = .ok (.getfield 132, 3) := by decide +kernel
theorem dX10_noTwo_13 : decode cX10_noTwo 13 = .ok (.if_icmp .ge 27, 3) := by decide +kernel
theorem dX10_noTwo_16 : decode cX10_noTwo 16 = .ok (.iload_n 2, 1) := by decide +kernel
theorem dX10_noTwo_17 : decode cX10_noTwo 17 = .ok (.ifCond .lt 23, 3) := by decide +kernel
theorem dX10_noTwo_20 : decode cX10_noTwo 20 = .ok (.iload_n 2, 1) := by decide +kernel
theorem dX10_noTwo_21 : decode cX10_noTwo 21 = .ok (.aload_n 0, 1) := by decide +kernel
theorem dX10_noTwo_22 : decode cX10_noTwo 22 = .ok (.getfield 22, 3) := by decide +kernel
theorem dX10_noTwo_25 : decode cX10_noTwo 25 = .ok (.getfield 132, 3) := by decide +kernel
theorem dX10_noTwo_28 : decode cX10_noTwo 28 = .ok (.if_icmp .ge 12, 3) := by decide +kernel
theorem dX10_noTwo_31 : decode cX10_noTwo 31 = .ok (.iload_n 1, 1) := by decide +kernel
theorem dX10_noTwo_32 : decode cX10_noTwo 32 = .ok (.iload_n 2, 1) := by decide +kernel
theorem dX10_noTwo_33 : decode cX10_noTwo 33 = .ok (.if_icmp .eq 7, 3) := by decide +kernel
theorem dX10_noTwo_36 : decode cX10_noTwo 36 = .ok (.iconst 1, 1) := by decide +kernel
theorem dX10_noTwo_37 : decode cX10_noTwo 37 = .ok (.goto 4, 3) := by decide +kernel
theorem dX10_noTwo_40 : decode cX10_noTwo 40 = .ok (.iconst 0, 1) := by decide +kernel
theorem dX10_noTwo_41 : decode cX10_noTwo 41 = .ok (.invokevirtual 381, 3) := by decide +kernel
theorem dX10_noTwo_44 : decode cX10_noTwo 44 = .ok (.ireturn, 1) := by decide +kernel
theorem dX10_noPair_0 : decode cX10_noPair 0 = .ok (.aload_n 0, 1) := by decide +kernel
theorem dX10_noPair_1 : decode cX10_noPair 1 = .ok (.iload_n 1, 1) := by decide +kernel
theorem dX10_noPair_2 : decode cX10_noPair 2 = .ok (.ifCond .lt 18, 3) := by decide +kernel
theorem dX10_noPair_5 : decode cX10_noPair 5 = .ok (.iload_n 1, 1) := by decide +kernel
theorem dX10_noPair_6 : decode cX10_noPair 6 = .ok (.aload_n 0, 1) := by decide +kernel
theorem dX10_noPair_7 : decode cX10_noPair 7 = .ok (.getfield 26, 3) := by decide +kernel
theorem dX10_noPair_10 : decode cX10_noPair 10 = .ok (.getfield 282, 3) := by decide +kernel
theorem dX10_noPair_13 : decode cX10_noPair 13 = .ok (.if_icmp .ge 7, 3) := by decide +kernel
theorem dX10_noPair_16 : decode cX10_noPair 16 = .ok (.iconst 1, 1) := by decide +kernel
theorem dX10_noPair_17 : decode cX10_noPair 17 = .ok (.goto 4, 3) := by decide +kernel
theorem dX10_noPair_20 : decode cX10_noPair 20 = .ok (.iconst 0, 1) := by decide +kernel
theorem dX10_noPair_21 : decode cX10_noPair 21 = .ok (.invokevirtual 381, 3) := by decide +kernel
theorem dX10_noPair_24 : decode cX10_noPair 24 = .ok (.ireturn, 1) := by decide +kernel
theorem dX10_refuseUnless_0 : decode cX10_refuseUnless 0 = .ok (.aload_n 0, 1) := by decide +kernel
theorem dX10_refuseUnless_1 : decode cX10_refuseUnless 1 = .ok (.iload_n 1, 1) := by decide +kernel
theorem dX10_refuseUnless_2 : decode cX10_refuseUnless 2 = .ok (.ifCond .eq 7, 3) := by decide +kernel
theorem dX10_refuseUnless_5 : decode cX10_refuseUnless 5 = .ok (.iconst 0, 1) := by decide +kernel
theorem dX10_refuseUnless_6 : decode cX10_refuseUnless 6 = .ok (.goto 4, 3) := by decide +kernel
theorem dX10_refuseUnless_9 : decode cX10_refuseUnless 9 = .ok (.iconst 1, 1) := by decide +kernel
theorem dX10_refuseUnless_10 : decode cX10_refuseUnless 10 = .ok (.putfield 107, 3) := by decide +kernel
theorem dX10_refuseUnless_13 : decode cX10_refuseUnless 13 = .ok (.iload_n 1, 1) := by decide +kernel
theorem dX10_refuseUnless_14 : decode cX10_refuseUnless 14 = .ok (.ifCond .ne 7, 3) := by decide +kernel
theorem dX10_refuseUnless_17 : decode cX10_refuseUnless 17 = .ok (.iconst 1, 1) := by decide +kernel
theorem dX10_refuseUnless_18 : decode cX10_refuseUnless 18 = .ok (.goto 4, 3) := by decide +kernel
theorem dX10_refuseUnless_21 : decode cX10_refuseUnless 21 = .ok (.iconst 0, 1) := by decide +kernel
theorem dX10_refuseUnless_22 : decode cX10_refuseUnless 22 = .ok (.ireturn, 1) := by decide +kernel
theorem dX10_within_0 : decode cX10_within 0 = .ok (.iload_n 0, 1) := by decide +kernel
theorem dX10_within_1 : decode cX10_within 1 = .ok (.ifCond .lt 12, 3) := by decide +kernel
theorem dX10_within_4 : decode cX10_within 4 = .ok (.iload_n 0, 1) := by decide +kernel
theorem dX10_within_5 : decode cX10_within 5 = .ok (.iload_n 1, 1) := by decide +kernel
theorem dX10_within_6 : decode cX10_within 6 = .ok (.if_icmp .gt 7, 3) := by decide +kernel
theorem dX10_within_9 : decode cX10_within 9 = .ok (.iconst 1, 1) := by decide +kernel
theorem dX10_within_10 : decode cX10_within 10 = .ok (.goto 4, 3) := by decide +kernel
theorem dX10_within_13 : decode cX10_within 13 = .ok (.iconst 0, 1) := by decide +kernel
theorem dX10_within_14 : decode cX10_within 14 = .ok (.ireturn, 1) := by decide +kernel
theorem dX10_has_0 : decode cX10_has 0 = .ok (.iload_n 0, 1) := by decide +kernel
theorem dX10_has_1 : decode cX10_has 1 = .ok (.iload_n 1, 1) := by decide +kernel
theorem dX10_has_2 : decode cX10_has 2 = .ok (.ishr, 1) := by decide +kernel
theorem dX10_has_3 : decode cX10_has 3 = .ok (.iconst 1, 1) := by decide +kernel
theorem dX10_has_4 : decode cX10_has 4 = .ok (.iand, 1) := by decide +kernel
theorem dX10_has_5 : decode cX10_has 5 = .ok (.iconst 1, 1) := by decide +kernel
theorem dX10_has_6 : decode cX10_has 6 = .ok (.if_icmp .ne 7, 3) := by decide +kernel
theorem dX10_has_9 : decode cX10_has 9 = .ok (.iconst 1, 1) := by decide +kernel
theorem dX10_has_10 : decode cX10_has 10 = .ok (.goto 4, 3) := by decide +kernel
theorem dX10_has_13 : decode cX10_has 13 = .ok (.iconst 0, 1) := by decide +kernel
theorem dX10_has_14 : decode cX10_has 14 = .ok (.ireturn, 1) := by decide +kernel
theorem dX10_sumOf_0 : decode cX10_sumOf 0 = .ok (.iconst 0, 1) := by decide +kernel
theorem dX10_sumOf_1 : decode cX10_sumOf 1 = .ok (.istore_n 2, 1) := by decide +kernel
theorem dX10_sumOf_2 : decode cX10_sumOf 2 = .ok (.iconst 0, 1) := by decide +kernel
theorem dX10_sumOf_3 : decode cX10_sumOf 3 = .ok (.istore_n 3, 1) := by decide +kernel
theorem dX10_sumOf_4 : decode cX10_sumOf 4 = .ok (.iload_n 3, 1) := by decide +kernel
theorem dX10_sumOf_5 : decode cX10_sumOf 5 = .ok (.aload_n 1, 1) := by decide +kernel
theorem dX10_sumOf_6 : decode cX10_sumOf 6 = .ok (.arraylength, 1) := by decide +kernel
theorem dX10_sumOf_7 : decode cX10_sumOf 7 = .ok (.if_icmp .ge 23, 3) := by decide +kernel
theorem dX10_sumOf_10 : decode cX10_sumOf 10 = .ok (.iload_n 0, 1) := by decide +kernel
theorem dX10_sumOf_11 : decode cX10_sumOf 11 = .ok (.iload_n 3, 1) := by decide +kernel
theorem dX10_sumOf_12 : decode cX10_sumOf 12 = .ok (.invokestatic 257, 3) := by decide +kernel
theorem dX10_sumOf_15 : decode cX10_sumOf 15 = .ok (.ifCond .eq 9, 3) := by decide +kernel
theorem dX10_sumOf_18 : decode cX10_sumOf 18 = .ok (.iload_n 2, 1) := by decide +kernel
theorem dX10_sumOf_19 : decode cX10_sumOf 19 = .ok (.aload_n 1, 1) := by decide +kernel
theorem dX10_sumOf_20 : decode cX10_sumOf 20 = .ok (.iload_n 3, 1) := by decide +kernel
theorem dX10_sumOf_21 : decode cX10_sumOf 21 = .ok (.iaload, 1) := by decide +kernel
theorem dX10_sumOf_22 : decode cX10_sumOf 22 = .ok (.iadd, 1) := by decide +kernel
theorem dX10_sumOf_23 : decode cX10_sumOf 23 = .ok (.istore_n 2, 1) := by decide +kernel
theorem dX10_sumOf_24 : decode cX10_sumOf 24 = .ok (.iinc 3 1, 3) := by decide +kernel
theorem dX10_sumOf_27 : decode cX10_sumOf 27 = .ok (.goto (-23), 3) := by decide +kernel
theorem dX10_sumOf_30 : decode cX10_sumOf 30 = .ok (.iload_n 2, 1) := by decide +kernel
theorem dX10_sumOf_31 : decode cX10_sumOf 31 = .ok (.ireturn, 1) := by decide +kernel
theorem dX10_reaches_0 : decode cX10_reaches 0 = .ok (.iload_n 2, 1) := by decide +kernel
theorem dX10_reaches_1 : decode cX10_reaches 1 = .ok (.iload_n 1, 1) := by decide +kernel
theorem dX10_reaches_2 : decode cX10_reaches 2 = .ok (.isub, 1) := by decide +kernel
theorem dX10_reaches_3 : decode cX10_reaches 3 = .ok (.invokestatic 385, 3) := by decide +kernel
theorem dX10_reaches_6 : decode cX10_reaches 6 = .ok (.iload_n 3, 1) := by decide +kernel
theorem dX10_reaches_7 : decode cX10_reaches 7 = .ok (.if_icmp .le 20, 3) := by decide +kernel
theorem dX10_reaches_10 : decode cX10_reaches 10 = .ok (.iload_n 0, 1) := by decide +kernel
theorem dX10_reaches_11 : decode cX10_reaches 11 = .ok (.iconst 1, 1) := by decide +kernel
theorem dX10_reaches_12 : decode cX10_reaches 12 = .ok (.if_icmp .ne 19, 3) := by decide +kernel
theorem dX10_reaches_15 : decode cX10_reaches 15 = .ok (.iload_n 2, 1) := by decide +kernel
theorem dX10_reaches_16 : decode cX10_reaches 16 = .ok (.iload_n 1, 1) := by decide +kernel
theorem dX10_reaches_17 : decode cX10_reaches 17 = .ok (.iconst 2, 1) := by decide +kernel
theorem dX10_reaches_18 : decode cX10_reaches 18 = .ok (.idiv, 1) := by decide +kernel
theorem dX10_reaches_19 : decode cX10_reaches 19 = .ok (.isub, 1) := by decide +kernel
theorem dX10_reaches_20 : decode cX10_reaches 20 = .ok (.invokestatic 385, 3) := by decide +kernel
theorem dX10_reaches_23 : decode cX10_reaches 23 = .ok (.iload_n 3, 1) := by decide +kernel
theorem dX10_reaches_24 : decode cX10_reaches 24 = .ok (.if_icmp .gt 7, 3) := by decide +kernel
theorem dX10_reaches_27 : decode cX10_reaches 27 = .ok (.iconst 1, 1) := by decide +kernel
theorem dX10_reaches_28 : decode cX10_reaches 28 = .ok (.goto 4, 3) := by decide +kernel
theorem dX10_reaches_31 : decode cX10_reaches 31 = .ok (.iconst 0, 1) := by decide +kernel
theorem dX10_reaches_32 : decode cX10_reaches 32 = .ok (.ireturn, 1) := by decide +kernel
theorem dX10_forksBetween_0 : decode cX10_forksBetween 0 = .ok (.iconst 1, 1) := by decide +kernel
theorem dX10_forksBetween_1 : decode cX10_forksBetween 1 = .ok (.iload_n 0, 1) := by decide +kernel
theorem dX10_forksBetween_2 : decode cX10_forksBetween 2 = .ok (.iload_n 1, 1) := by decide +kernel
theorem dX10_forksBetween_3 : decode cX10_forksBetween 3 = .ok (.invokestatic 388, 3) := by decide +kernel
theorem dX10_forksBetween_6 : decode cX10_forksBetween 6 = .ok (.ishl, 1) := by decide +kernel
theorem dX10_forksBetween_7 : decode cX10_forksBetween 7 = .ok (.iconst 1, 1) := by decide +kernel
theorem dX10_forksBetween_8 : decode cX10_forksBetween 8 = .ok (.isub, 1) := by decide +kernel
theorem dX10_forksBetween_9 : decode cX10_forksBetween 9 = .ok (.istore_n 3, 1) := by decide +kernel
theorem dX10_forksBetween_10 : decode cX10_forksBetween 10 = .ok (.iconst 2, 1) := by decide +kernel
theorem dX10_forksBetween_11 : decode cX10_forksBetween 11 = .ok (.iload_n 0, 1) := by decide +kernel
theorem dX10_forksBetween_12 : decode cX10_forksBetween 12 = .ok (.iload_n 1, 1) := by decide +kernel
theorem dX10_forksBetween_13 : decode cX10_forksBetween 13 = .ok (.invokestatic 352, 3) := by decide +kernel
theorem dX10_forksBetween_16 : decode cX10_forksBetween 16 = .ok (.ishl, 1) := by decide +kernel
theorem dX10_forksBetween_17 : decode cX10_forksBetween 17 = .ok (.iconst 1, 1) := by decide +kernel
theorem dX10_forksBetween_18 : decode cX10_forksBetween 18 = .ok (.isub, 1) := by decide +kernel
theorem dX10_forksBetween_19 : decode cX10_forksBetween 19 = .ok (.istore 4, 2) := by decide +kernel
theorem dX10_forksBetween_21 : decode cX10_forksBetween 21 = .ok (.iload_n 2, 1) := by decide +kernel
theorem dX10_forksBetween_22 : decode cX10_forksBetween 22 = .ok (.iload_n 3, 1) := by decide +kernel
theorem dX10_forksBetween_23 : decode cX10_forksBetween 23 = .ok (.iand, 1) := by decide +kernel
theorem dX10_forksBetween_24 : decode cX10_forksBetween 24 = .ok (.iload 4, 2) := by decide +kernel
theorem dX10_forksBetween_26 : decode cX10_forksBetween 26 = .ok (.iconst (-1), 1) := by decide +kernel
theorem dX10_forksBetween_27 : decode cX10_forksBetween 27 = .ok (.ixor, 1) := by decide +kernel
theorem dX10_forksBetween_28 : decode cX10_forksBetween 28 = .ok (.iand, 1) := by decide +kernel
theorem dX10_forksBetween_29 : decode cX10_forksBetween 29 = .ok (.invokestatic 376, 3) := by decide +kernel
theorem dX10_forksBetween_32 : decode cX10_forksBetween 32 = .ok (.ireturn, 1) := by decide +kernel
theorem dX10_slopped_0 : decode cX10_slopped 0 = .ok (.iconst 0, 1) := by decide +kernel
theorem dX10_slopped_1 : decode cX10_slopped 1 = .ok (.iload_n 0, 1) := by decide +kernel
theorem dX10_slopped_2 : decode cX10_slopped 2 = .ok (.iload_n 1, 1) := by decide +kernel
theorem dX10_slopped_3 : decode cX10_slopped 3 = .ok (.isub, 1) := by decide +kernel
theorem dX10_slopped_4 : decode cX10_slopped 4 = .ok (.invokestatic 385, 3) := by decide +kernel
theorem dX10_slopped_7 : decode cX10_slopped 7 = .ok (.iconst 3, 1) := by decide +kernel
theorem dX10_slopped_8 : decode cX10_slopped 8 = .ok (.iload_n 0, 1) := by decide +kernel
theorem dX10_slopped_9 : decode cX10_slopped 9 = .ok (.iload_n 1, 1) := by decide +kernel
theorem dX10_slopped_10 : decode cX10_slopped 10 = .ok (.iload_n 2, 1) := by decide +kernel
theorem dX10_slopped_11 : decode cX10_slopped 11 = .ok (.invokestatic 184, 3) := by decide +kernel
theorem dX10_slopped_14 : decode cX10_slopped 14 = .ok (.imul, 1) := by decide +kernel
theorem dX10_slopped_15 : decode cX10_slopped 15 = .ok (.isub, 1) := by decide +kernel
theorem dX10_slopped_16 : decode cX10_slopped 16 = .ok (.invokestatic 388, 3) := by decide +kernel
theorem dX10_slopped_19 : decode cX10_slopped 19 = .ok (.ireturn, 1) := by decide +kernel
theorem dX10_canFeedNow_0 : decode cX10_canFeedNow 0 = .ok (.aload_n 0, 1) := by decide +kernel
theorem dX10_canFeedNow_1 : decode cX10_canFeedNow 1 = .ok (.iload_n 1, 1) := by decide +kernel
theorem dX10_canFeedNow_2 : decode cX10_canFeedNow 2 = .ok (.iconst 0, 1) := by decide +kernel
theorem dX10_canFeedNow_3 : decode cX10_canFeedNow 3 = .ok (.invokevirtual 222, 3) := by decide +kernel
theorem dX10_canFeedNow_6 : decode cX10_canFeedNow 6 = .ok (.ireturn, 1) := by decide +kernel
theorem dX10_canFeedBehind_0 : decode cX10_canFeedBehind 0 = .ok (.aload_n 0, 1) := by decide +kernel
theorem dX10_canFeedBehind_1 : decode cX10_canFeedBehind 1 = .ok (.getfield 26, 3) := by decide +kernel
theorem dX10_canFeedBehind_4 : decode cX10_canFeedBehind 4 = .ok (.getfield 157, 3) := by decide +kernel
theorem dX10_canFeedBehind_7 : decode cX10_canFeedBehind 7 = .ok (.iload_n 1, 1) := by decide +kernel
theorem dX10_canFeedBehind_8 : decode cX10_canFeedBehind 8 = .ok (.iaload, 1) := by decide +kernel
theorem dX10_canFeedBehind_9 : decode cX10_canFeedBehind 9 = .ok (.aload_n 0, 1) := by decide +kernel
theorem dX10_canFeedBehind_10 : decode cX10_canFeedBehind 10 = .ok (.getfield 26, 3) := by decide +kernel
theorem dX10_canFeedBehind_13 : decode cX10_canFeedBehind 13 = .ok (.iload_n 1, 1) := by decide +kernel
theorem dX10_canFeedBehind_14 : decode cX10_canFeedBehind 14 = .ok (.iload_n 2, 1) := by decide +kernel
theorem dX10_canFeedBehind_15 : decode cX10_canFeedBehind 15 = .ok (.invokevirtual 219, 3) := by decide +kernel
theorem dX10_canFeedBehind_18 : decode cX10_canFeedBehind 18 = .ok (.aload_n 0, 1) := by decide +kernel
theorem dX10_canFeedBehind_19 : decode cX10_canFeedBehind 19 = .ok (.getfield 26, 3) := by decide +kernel
theorem dX10_canFeedBehind_22 : decode cX10_canFeedBehind 22 = .ok (.iload_n 1, 1) := by decide +kernel
theorem dX10_canFeedBehind_23 : decode cX10_canFeedBehind 23 = .ok (.invokevirtual 391, 3) := by decide +kernel
theorem dX10_canFeedBehind_26 : decode cX10_canFeedBehind 26 = .ok (.aload_n 0, 1) := by decide +kernel
theorem dX10_canFeedBehind_27 : decode cX10_canFeedBehind 27 = .ok (.getfield 22, 3) := by decide +kernel
theorem dX10_canFeedBehind_30 : decode cX10_canFeedBehind 30 = .ok (.getfield 370, 3) := by decide +kernel
theorem dX10_canFeedBehind_33 : decode cX10_canFeedBehind 33 = .ok (.invokestatic 394, 3) := by decide +kernel
theorem dX10_canFeedBehind_36 : decode cX10_canFeedBehind 36 = .ok (.ireturn, 1) := by decide +kernel
theorem dX10_feederBits_0 : decode cX10_feederBits 0 = .ok (.iconst 0, 1) := by decide +kernel
theorem dX10_feederBits_1 : decode cX10_feederBits 1 = .ok (.istore_n 2, 1) := by decide +kernel
theorem dX10_feederBits_2 : decode cX10_feederBits 2 = .ok (.iconst 0, 1) := by decide +kernel
theorem dX10_feederBits_3 : decode cX10_feederBits 3 = .ok (.istore_n 3, 1) := by decide +kernel
theorem dX10_feederBits_4 : decode cX10_feederBits 4 = .ok (.iload_n 3, 1) := by decide +kernel
theorem dX10_feederBits_5 : decode cX10_feederBits 5 = .ok (.aload_n 0, 1) := by decide +kernel
theorem dX10_feederBits_6 : decode cX10_feederBits 6 = .ok (.getfield 26, 3) := by decide +kernel
theorem dX10_feederBits_9 : decode cX10_feederBits 9 = .ok (.getfield 282, 3) := by decide +kernel
theorem dX10_feederBits_12 : decode cX10_feederBits 12 = .ok (.if_icmp .ge 43, 3) := by decide +kernel
theorem dX10_feederBits_15 : decode cX10_feederBits 15 = .ok (.aload_n 0, 1) := by decide +kernel
theorem dX10_feederBits_16 : decode cX10_feederBits 16 = .ok (.getfield 26, 3) := by decide +kernel
theorem dX10_feederBits_19 : decode cX10_feederBits 19 = .ok (.iload_n 3, 1) := by decide +kernel
theorem dX10_feederBits_20 : decode cX10_feederBits 20 = .ok (.iload_n 1, 1) := by decide +kernel
theorem dX10_feederBits_21 : decode cX10_feederBits 21 = .ok (.invokevirtual 206, 3) := by decide +kernel
theorem dX10_feederBits_24 : decode cX10_feederBits 24 = .ok (.ifCond .lt 25, 3) := by decide +kernel
theorem dX10_feederBits_27 : decode cX10_feederBits 27 = .ok (.aload_n 0, 1) := by decide +kernel
theorem dX10_feederBits_28 : decode cX10_feederBits 28 = .ok (.iload_n 3, 1) := by decide +kernel
theorem dX10_feederBits_29 : decode cX10_feederBits 29 = .ok (.invokevirtual 163, 3) := by decide +kernel
theorem dX10_feederBits_32 : decode cX10_feederBits 32 = .ok (.ifCond .eq 17, 3) := by decide +kernel
theorem dX10_feederBits_35 : decode cX10_feederBits 35 = .ok (.iload_n 2, 1) := by decide +kernel
theorem dX10_feederBits_36 : decode cX10_feederBits 36 = .ok (.iconst 1, 1) := by decide +kernel
theorem dX10_feederBits_37 : decode cX10_feederBits 37 = .ok (.aload_n 0, 1) := by decide +kernel
theorem dX10_feederBits_38 : decode cX10_feederBits 38 = .ok (.getfield 26, 3) := by decide +kernel
theorem dX10_feederBits_41 : decode cX10_feederBits 41 = .ok (.iload_n 3, 1) := by decide +kernel
theorem dX10_feederBits_42 : decode cX10_feederBits 42 = .ok (.iload_n 1, 1) := by decide +kernel
theorem dX10_feederBits_43 : decode cX10_feederBits 43 = .ok (.invokevirtual 206, 3) := by decide +kernel
theorem dX10_feederBits_46 : decode cX10_feederBits 46 = .ok (.ishl, 1) := by decide +kernel
theorem dX10_feederBits_47 : decode cX10_feederBits 47 = .ok (.ior, 1) := by decide +kernel
theorem dX10_feederBits_48 : decode cX10_feederBits 48 = .ok (.istore_n 2, 1) := by decide +kernel
theorem dX10_feederBits_49 : decode cX10_feederBits 49 = .ok (.iinc 3 1, 3) := by decide +kernel
theorem dX10_feederBits_52 : decode cX10_feederBits 52 = .ok (.goto (-48), 3) := by decide +kernel
theorem dX10_feederBits_55 : decode cX10_feederBits 55 = .ok (.iload_n 2, 1) := by decide +kernel
theorem dX10_feederBits_56 : decode cX10_feederBits 56 = .ok (.ireturn, 1) := by decide +kernel
theorem dX10_settleNow_0 : decode cX10_settleNow 0 = .ok (.aload_n 0, 1) := by decide +kernel
theorem dX10_settleNow_1 : decode cX10_settleNow 1 = .ok (.getfield 35, 3) := by decide +kernel
theorem dX10_settleNow_4 : decode cX10_settleNow 4 = .ok (.invokevirtual 247, 3) := by decide +kernel
theorem dX10_settleNow_7 : decode cX10_settleNow 7 = .ok (.aload_n 0, 1) := by decide +kernel
theorem dX10_settleNow_8 : decode cX10_settleNow 8 = .ok (.getfield 35, 3) := by decide +kernel
theorem dX10_settleNow_11 : decode cX10_settleNow 11 = .ok (.invokevirtual 251, 3) := by decide +kernel
theorem dX10_settleNow_14 : decode cX10_settleNow 14 = .ok (.return_, 1) := by decide +kernel
theorem dX10_fedBehind_0 : decode cX10_fedBehind 0 = .ok (.aload_n 0, 1) := by decide +kernel
theorem dX10_fedBehind_1 : decode cX10_fedBehind 1 = .ok (.getfield 35, 3) := by decide +kernel
theorem dX10_fedBehind_4 : decode cX10_fedBehind 4 = .ok (.invokevirtual 247, 3) := by decide +kernel
theorem dX10_fedBehind_7 : decode cX10_fedBehind 7 = .ok (.aload_n 0, 1) := by decide +kernel
theorem dX10_fedBehind_8 : decode cX10_fedBehind 8 = .ok (.getfield 35, 3) := by decide +kernel
theorem dX10_fedBehind_11 : decode cX10_fedBehind 11 = .ok (.iload_n 1, 1) := by decide +kernel
theorem dX10_fedBehind_12 : decode cX10_fedBehind 12 = .ok (.invokevirtual 398, 3) := by decide +kernel
theorem dX10_fedBehind_15 : decode cX10_fedBehind 15 = .ok (.aload_n 0, 1) := by decide +kernel
theorem dX10_fedBehind_16 : decode cX10_fedBehind 16 = .ok (.getfield 35, 3) := by decide +kernel
theorem dX10_fedBehind_19 : decode cX10_fedBehind 19 = .ok (.invokevirtual 251, 3) := by decide +kernel
theorem dX10_fedBehind_22 : decode cX10_fedBehind 22 = .ok (.aload_n 0, 1) := by decide +kernel
theorem dX10_fedBehind_23 : decode cX10_fedBehind 23 = .ok (.getfield 35, 3) := by decide +kernel
theorem dX10_fedBehind_26 : decode cX10_fedBehind 26 = .ok (.invokevirtual 254, 3) := by decide +kernel
theorem dX10_fedBehind_29 : decode cX10_fedBehind 29 = .ok (.ireturn, 1) := by decide +kernel
theorem dX10_fedSwapped_0 : decode cX10_fedSwapped 0 = .ok (.aload_n 0, 1) := by decide +kernel
theorem dX10_fedSwapped_1 : decode cX10_fedSwapped 1 = .ok (.getfield 35, 3) := by decide +kernel
theorem dX10_fedSwapped_4 : decode cX10_fedSwapped 4 = .ok (.invokevirtual 247, 3) := by decide +kernel
theorem dX10_fedSwapped_7 : decode cX10_fedSwapped 7 = .ok (.aload_n 0, 1) := by decide +kernel
theorem dX10_fedSwapped_8 : decode cX10_fedSwapped 8 = .ok (.getfield 35, 3) := by decide +kernel
theorem dX10_fedSwapped_11 : decode cX10_fedSwapped 11 = .ok (.getfield 250, 3) := by decide +kernel
theorem dX10_fedSwapped_14 : decode cX10_fedSwapped 14 = .ok (.iload_n 1, 1) := by decide +kernel
theorem dX10_fedSwapped_15 : decode cX10_fedSwapped 15 = .ok (.aload_n 0, 1) := by decide +kernel
theorem dX10_fedSwapped_16 : decode cX10_fedSwapped 16 = .ok (.getfield 26, 3) := by decide +kernel
theorem dX10_fedSwapped_19 : decode cX10_fedSwapped 19 = .ok (.getfield 138, 3) := by decide +kernel
theorem dX10_fedSwapped_22 : decode cX10_fedSwapped 22 = .ok (.iload_n 2, 1) := by decide +kernel
theorem dX10_fedSwapped_23 : decode cX10_fedSwapped 23 = .ok (.iaload, 1) := by decide +kernel
theorem dX10_fedSwapped_24 : decode cX10_fedSwapped 24 = .ok (.iastore, 1) := by decide +kernel
theorem dX10_fedSwapped_25 : decode cX10_fedSwapped 25 = .ok (.aload_n 0, 1) := by decide +kernel
theorem dX10_fedSwapped_26 : decode cX10_fedSwapped 26 = .ok (.getfield 35, 3) := by decide +kernel
theorem dX10_fedSwapped_29 : decode cX10_fedSwapped 29 = .ok (.getfield 250, 3) := by decide +kernel
theorem dX10_fedSwapped_32 : decode cX10_fedSwapped 32 = .ok (.iload_n 2, 1) := by decide +kernel
theorem dX10_fedSwapped_33 : decode cX10_fedSwapped 33 = .ok (.aload_n 0, 1) := by decide +kernel
theorem dX10_fedSwapped_34 : decode cX10_fedSwapped 34 = .ok (.getfield 26, 3) := by decide +kernel
theorem dX10_fedSwapped_37 : decode cX10_fedSwapped 37 = .ok (.getfield 138, 3) := by decide +kernel
theorem dX10_fedSwapped_40 : decode cX10_fedSwapped 40 = .ok (.iload_n 1, 1) := by decide +kernel
theorem dX10_fedSwapped_41 : decode cX10_fedSwapped 41 = .ok (.iaload, 1) := by decide +kernel
theorem dX10_fedSwapped_42 : decode cX10_fedSwapped 42 = .ok (.iastore, 1) := by decide +kernel
theorem dX10_fedSwapped_43 : decode cX10_fedSwapped 43 = .ok (.aload_n 0, 1) := by decide +kernel
theorem dX10_fedSwapped_44 : decode cX10_fedSwapped 44 = .ok (.getfield 35, 3) := by decide +kernel
theorem dX10_fedSwapped_47 : decode cX10_fedSwapped 47 = .ok (.invokevirtual 251, 3) := by decide +kernel
theorem dX10_fedSwapped_50 : decode cX10_fedSwapped 50 = .ok (.aload_n 0, 1) := by decide +kernel
theorem dX10_fedSwapped_51 : decode cX10_fedSwapped 51 = .ok (.getfield 35, 3) := by decide +kernel
theorem dX10_fedSwapped_54 : decode cX10_fedSwapped 54 = .ok (.invokevirtual 254, 3) := by decide +kernel
theorem dX10_fedSwapped_57 : decode cX10_fedSwapped 57 = .ok (.ireturn, 1) := by decide +kernel
theorem dX10_isFree_0 : decode cX10_isFree 0 = .ok (.iconst 0, 1) := by decide +kernel
theorem dX10_isFree_1 : decode cX10_isFree 1 = .ok (.istore_n 2, 1) := by decide +kernel
theorem dX10_isFree_2 : decode cX10_isFree 2 = .ok (.iload_n 2, 1) := by decide +kernel
theorem dX10_isFree_3 : decode cX10_isFree 3 = .ok (.aload_n 0, 1) := by decide +kernel
theorem dX10_isFree_4 : decode cX10_isFree 4 = .ok (.getfield 22, 3) := by decide +kernel
theorem dX10_isFree_7 : decode cX10_isFree 7 = .ok (.getfield 132, 3) := by decide +kernel
theorem dX10_isFree_10 : decode cX10_isFree 10 = .ok (.if_icmp .ge 24, 3) := by decide +kernel
theorem dX10_isFree_13 : decode cX10_isFree 13 = .ok (.aload_n 0, 1) := by decide +kernel
theorem dX10_isFree_14 : decode cX10_isFree 14 = .ok (.getfield 26, 3) := by decide +kernel
theorem dX10_isFree_17 : decode cX10_isFree 17 = .ok (.getfield 138, 3) := by decide +kernel
theorem dX10_isFree_20 : decode cX10_isFree 20 = .ok (.iload_n 2, 1) := by decide +kernel
theorem dX10_isFree_21 : decode cX10_isFree 21 = .ok (.iaload, 1) := by decide +kernel
theorem dX10_isFree_22 : decode cX10_isFree 22 = .ok (.iload_n 1, 1) := by decide +kernel
theorem dX10_isFree_23 : decode cX10_isFree 23 = .ok (.if_icmp .ne 5, 3) := by decide +kernel
theorem dX10_isFree_26 : decode cX10_isFree 26 = .ok (.iconst 0, 1) := by decide +kernel
theorem dX10_isFree_27 : decode cX10_isFree 27 = .ok (.ireturn, 1) := by decide +kernel
theorem dX10_isFree_28 : decode cX10_isFree 28 = .ok (.iinc 2 1, 3) := by decide +kernel
theorem dX10_isFree_31 : decode cX10_isFree 31 = .ok (.goto (-29), 3) := by decide +kernel
theorem dX10_isFree_34 : decode cX10_isFree 34 = .ok (.iconst 1, 1) := by decide +kernel
theorem dX10_isFree_35 : decode cX10_isFree 35 = .ok (.ireturn, 1) := by decide +kernel
theorem dX10_chooseSaws_0 : decode cX10_chooseSaws 0 = .ok (.aload_n 0, 1) := by decide +kernel
theorem dX10_chooseSaws_1 : decode cX10_chooseSaws 1 = .ok (.getfield 49, 3) := by decide +kernel
theorem dX10_chooseSaws_4 : decode cX10_chooseSaws 4 = .ok (.iconst 0, 1) := by decide +kernel
theorem dX10_chooseSaws_5 : decode cX10_chooseSaws 5 = .ok (.putfield 401, 3) := by decide +kernel
theorem dX10_chooseSaws_8 : decode cX10_chooseSaws 8 = .ok (.iconst 0, 1) := by decide +kernel
theorem dX10_chooseSaws_9 : decode cX10_chooseSaws 9 = .ok (.istore_n 1, 1) := by decide +kernel
theorem dX10_chooseSaws_10 : decode cX10_chooseSaws 10 = .ok (.iload_n 1, 1) := by decide +kernel
theorem dX10_chooseSaws_11 : decode cX10_chooseSaws 11 = .ok (.aload_n 0, 1) := by decide +kernel
theorem dX10_chooseSaws_12 : decode cX10_chooseSaws 12 = .ok (.getfield 26, 3) := by decide +kernel
theorem dX10_chooseSaws_15 : decode cX10_chooseSaws 15 = .ok (.getfield 282, 3) := by decide +kernel
theorem dX10_chooseSaws_18 : decode cX10_chooseSaws 18 = .ok (.if_icmp .ge 32, 3) := by decide +kernel
theorem dX10_chooseSaws_21 : decode cX10_chooseSaws 21 = .ok (.aload_n 0, 1) := by decide +kernel
theorem dX10_chooseSaws_22 : decode cX10_chooseSaws 22 = .ok (.getfield 49, 3) := by decide +kernel
theorem dX10_chooseSaws_25 : decode cX10_chooseSaws 25 = .ok (.aload_n 0, 1) := by decide +kernel
theorem dX10_chooseSaws_26 : decode cX10_chooseSaws 26 = .ok (.getfield 26, 3) := by decide +kernel
theorem dX10_chooseSaws_29 : decode cX10_chooseSaws 29 = .ok (.iload_n 1, 1) := by decide +kernel
theorem dX10_chooseSaws_30 : decode cX10_chooseSaws 30 = .ok (.invokevirtual 404, 3) := by decide +kernel
theorem dX10_chooseSaws_33 : decode cX10_chooseSaws 33 = .ok (.aload_n 0, 1) := by decide +kernel
theorem dX10_chooseSaws_34 : decode cX10_chooseSaws 34 = .ok (.iload_n 1, 1) := by decide +kernel
theorem dX10_chooseSaws_35 : decode cX10_chooseSaws 35 = .ok (.invokevirtual 407, 3) := by decide +kernel
theorem dX10_chooseSaws_38 : decode cX10_chooseSaws 38 = .ok (.iconst 1, 1) := by decide +kernel
theorem dX10_chooseSaws_39 : decode cX10_chooseSaws 39 = .ok (.iload_n 1, 1) := by decide +kernel
theorem dX10_chooseSaws_40 : decode cX10_chooseSaws 40 = .ok (.ishl, 1) := by decide +kernel
theorem dX10_chooseSaws_41 : decode cX10_chooseSaws 41 = .ok (.invokevirtual 410, 3) := by decide +kernel
theorem dX10_chooseSaws_44 : decode cX10_chooseSaws 44 = .ok (.iinc 1 1, 3) := by decide +kernel
theorem dX10_chooseSaws_47 : decode cX10_chooseSaws 47 = .ok (.goto (-37), 3) := by decide +kernel
theorem dX10_chooseSaws_50 : decode cX10_chooseSaws 50 = .ok (.aload_n 0, 1) := by decide +kernel
theorem dX10_chooseSaws_51 : decode cX10_chooseSaws 51 = .ok (.getfield 49, 3) := by decide +kernel
theorem dX10_chooseSaws_54 : decode cX10_chooseSaws 54 = .ok (.aload_n 0, 1) := by decide +kernel
theorem dX10_chooseSaws_55 : decode cX10_chooseSaws 55 = .ok (.getfield 22, 3) := by decide +kernel
theorem dX10_chooseSaws_58 : decode cX10_chooseSaws 58 = .ok (.getfield 132, 3) := by decide +kernel
theorem dX10_chooseSaws_61 : decode cX10_chooseSaws 61 = .ok (.iconst 2, 1) := by decide +kernel
theorem dX10_chooseSaws_62 : decode cX10_chooseSaws 62 = .ok (.idiv, 1) := by decide +kernel
theorem dX10_chooseSaws_63 : decode cX10_chooseSaws 63 = .ok (.invokevirtual 413, 3) := by decide +kernel
theorem dX10_chooseSaws_66 : decode cX10_chooseSaws 66 = .ok (.return_, 1) := by decide +kernel
theorem dX10_fewestInches_0 : decode cX10_fewestInches 0 = .ok (.aload_n 0, 1) := by decide +kernel
theorem dX10_fewestInches_1 : decode cX10_fewestInches 1 = .ok (.getfield 26, 3) := by decide +kernel
theorem dX10_fewestInches_4 : decode cX10_fewestInches 4 = .ok (.iload_n 1, 1) := by decide +kernel
theorem dX10_fewestInches_5 : decode cX10_fewestInches 5 = .ok (.invokevirtual 154, 3) := by decide +kernel
theorem dX10_fewestInches_8 : decode cX10_fewestInches 8 = .ok (.istore_n 2, 1) := by decide +kernel
theorem dX10_fewestInches_9 : decode cX10_fewestInches 9 = .ok (.aload_n 0, 1) := by decide +kernel
theorem dX10_fewestInches_10 : decode cX10_fewestInches 10 = .ok (.getfield 26, 3) := by decide +kernel
theorem dX10_fewestInches_13 : decode cX10_fewestInches 13 = .ok (.iload_n 1, 1) := by decide +kernel
theorem dX10_fewestInches_14 : decode cX10_fewestInches 14 = .ok (.invokevirtual 391, 3) := by decide +kernel
theorem dX10_fewestInches_17 : decode cX10_fewestInches 17 = .ok (.aload_n 0, 1) := by decide +kernel
theorem dX10_fewestInches_18 : decode cX10_fewestInches 18 = .ok (.getfield 22, 3) := by decide +kernel
theorem dX10_fewestInches_21 : decode cX10_fewestInches 21 = .ok (.getfield 370, 3) := by decide +kernel
theorem dX10_fewestInches_24 : decode cX10_fewestInches 24 = .ok (.iadd, 1) := by decide +kernel
theorem dX10_fewestInches_25 : decode cX10_fewestInches 25 = .ok (.istore_n 3, 1) := by decide +kernel
theorem dX10_fewestInches_26 : decode cX10_fewestInches 26 = .ok (.aload_n 0, 1) := by decide +kernel
theorem dX10_fewestInches_27 : decode cX10_fewestInches 27 = .ok (.getfield 26, 3) := by decide +kernel
theorem dX10_fewestInches_30 : decode cX10_fewestInches 30 = .ok (.getfield 157, 3) := by decide +kernel
theorem dX10_fewestInches_33 : decode cX10_fewestInches 33 = .ok (.iload_n 1, 1) := by decide +kernel
theorem dX10_fewestInches_34 : decode cX10_fewestInches 34 = .ok (.iaload, 1) := by decide +kernel
theorem dX10_fewestInches_35 : decode cX10_fewestInches 35 = .ok (.iconst 1, 1) := by decide +kernel
theorem dX10_fewestInches_36 : decode cX10_fewestInches 36 = .ok (.if_icmp .ne 11, 3) := by decide +kernel
theorem dX10_fewestInches_39 : decode cX10_fewestInches 39 = .ok (.iconst 2, 1) := by decide +kernel
theorem dX10_fewestInches_40 : decode cX10_fewestInches 40 = .ok (.iload_n 3, 1) := by decide +kernel
theorem dX10_fewestInches_41 : decode cX10_fewestInches 41 = .ok (.imul, 1) := by decide +kernel
theorem dX10_fewestInches_42 : decode cX10_fewestInches 42 = .ok (.iconst 1, 1) := by decide +kernel
theorem dX10_fewestInches_43 : decode cX10_fewestInches 43 = .ok (.iadd, 1) := by decide +kernel
theorem dX10_fewestInches_44 : decode cX10_fewestInches 44 = .ok (.goto 4, 3) := by decide +kernel
theorem dX10_fewestInches_47 : decode cX10_fewestInches 47 = .ok (.iload_n 3, 1) := by decide +kernel
theorem dX10_fewestInches_48 : decode cX10_fewestInches 48 = .ok (.istore 4, 2) := by decide +kernel
theorem dX10_fewestInches_50 : decode cX10_fewestInches 50 = .ok (.iconst 0, 1) := by decide +kernel
theorem dX10_fewestInches_51 : decode cX10_fewestInches 51 = .ok (.iload_n 2, 1) := by decide +kernel
theorem dX10_fewestInches_52 : decode cX10_fewestInches 52 = .ok (.iload 4, 2) := by decide +kernel
theorem dX10_fewestInches_54 : decode cX10_fewestInches 54 = .ok (.isub, 1) := by decide +kernel
theorem dX10_fewestInches_55 : decode cX10_fewestInches 55 = .ok (.invokestatic 388, 3) := by decide +kernel
theorem dX10_fewestInches_58 : decode cX10_fewestInches 58 = .ok (.istore 5, 2) := by decide +kernel
theorem dX10_fewestInches_60 : decode cX10_fewestInches 60 = .ok (.aload_n 0, 1) := by decide +kernel
theorem dX10_fewestInches_61 : decode cX10_fewestInches 61 = .ok (.getfield 26, 3) := by decide +kernel
theorem dX10_fewestInches_64 : decode cX10_fewestInches 64 = .ok (.getfield 157, 3) := by decide +kernel
theorem dX10_fewestInches_67 : decode cX10_fewestInches 67 = .ok (.iload_n 1, 1) := by decide +kernel
theorem dX10_fewestInches_68 : decode cX10_fewestInches 68 = .ok (.iaload, 1) := by decide +kernel
theorem dX10_fewestInches_69 : decode cX10_fewestInches 69 = .ok (.iconst 2, 1) := by decide +kernel
theorem dX10_fewestInches_70 : decode cX10_fewestInches 70 = .ok (.if_icmp .ne 7, 3) := by decide +kernel
theorem dX10_fewestInches_73 : decode cX10_fewestInches 73 = .ok (.iconst 0, 1) := by decide +kernel
theorem dX10_fewestInches_74 : decode cX10_fewestInches 74 = .ok (.goto 4, 3) := by decide +kernel
theorem dX10_fewestInches_77 : decode cX10_fewestInches 77 = .ok (.iload_n 2, 1) := by decide +kernel
theorem dX10_fewestInches_78 : decode cX10_fewestInches 78 = .ok (.istore 6, 2) := by decide +kernel
theorem dX10_fewestInches_80 : decode cX10_fewestInches 80 = .ok (.iload 5, 2) := by decide +kernel
theorem dX10_fewestInches_82 : decode cX10_fewestInches 82 = .ok (.istore 7, 2) := by decide +kernel
theorem dX10_fewestInches_84 : decode cX10_fewestInches 84 = .ok (.iload 7, 2) := by decide +kernel
theorem dX10_fewestInches_86 : decode cX10_fewestInches 86 = .ok (.iload 6, 2) := by decide +kernel
theorem dX10_fewestInches_88 : decode cX10_fewestInches 88 = .ok (.if_icmp .gt 46, 3) := by decide +kernel
theorem dX10_fewestInches_91 : decode cX10_fewestInches 91 = .ok (.aload_n 0, 1) := by decide +kernel
theorem dX10_fewestInches_92 : decode cX10_fewestInches 92 = .ok (.getfield 26, 3) := by decide +kernel
theorem dX10_fewestInches_95 : decode cX10_fewestInches 95 = .ok (.getfield 157, 3) := by decide +kernel
theorem dX10_fewestInches_98 : decode cX10_fewestInches 98 = .ok (.iload_n 1, 1) := by decide +kernel
theorem dX10_fewestInches_99 : decode cX10_fewestInches 99 = .ok (.iaload, 1) := by decide +kernel
theorem dX10_fewestInches_100 : decode cX10_fewestInches 100 = .ok (.iload_n 2, 1) := by decide +kernel
theorem dX10_fewestInches_101 : decode cX10_fewestInches 101 = .ok (.iload 7, 2) := by decide +kernel
theorem dX10_fewestInches_103 : decode cX10_fewestInches 103 = .ok (.isub, 1) := by decide +kernel
theorem dX10_fewestInches_104 : decode cX10_fewestInches 104 = .ok (.aload_n 0, 1) := by decide +kernel
theorem dX10_fewestInches_105 : decode cX10_fewestInches 105 = .ok (.getfield 26, 3) := by decide +kernel
theorem dX10_fewestInches_108 : decode cX10_fewestInches 108 = .ok (.iload_n 1, 1) := by decide +kernel
theorem dX10_fewestInches_109 : decode cX10_fewestInches 109 = .ok (.invokevirtual 391, 3) := by decide +kernel
theorem dX10_fewestInches_112 : decode cX10_fewestInches 112 = .ok (.aload_n 0, 1) := by decide +kernel
theorem dX10_fewestInches_113 : decode cX10_fewestInches 113 = .ok (.getfield 22, 3) := by decide +kernel
theorem dX10_fewestInches_116 : decode cX10_fewestInches 116 = .ok (.getfield 370, 3) := by decide +kernel
theorem dX10_fewestInches_119 : decode cX10_fewestInches 119 = .ok (.invokestatic 394, 3) := by decide +kernel
theorem dX10_fewestInches_122 : decode cX10_fewestInches 122 = .ok (.ifCond .eq 6, 3) := by decide +kernel
theorem dX10_fewestInches_125 : decode cX10_fewestInches 125 = .ok (.iload 7, 2) := by decide +kernel
theorem dX10_fewestInches_127 : decode cX10_fewestInches 127 = .ok (.ireturn, 1) := by decide +kernel
theorem dX10_fewestInches_128 : decode cX10_fewestInches 128 = .ok (.iinc 7 1, 3) := by decide +kernel
theorem dX10_fewestInches_131 : decode cX10_fewestInches 131 = .ok (.goto (-47), 3) := by decide +kernel
theorem dX10_fewestInches_134 : decode cX10_fewestInches 134 = .ok (.iconst (-1), 1) := by decide +kernel
theorem dX10_fewestInches_135 : decode cX10_fewestInches 135 = .ok (.ireturn, 1) := by decide +kernel
theorem dX10_chooseMeet_0 : decode cX10_chooseMeet 0 = .ok (.aload_n 0, 1) := by decide +kernel
theorem dX10_chooseMeet_1 : decode cX10_chooseMeet 1 = .ok (.getfield 49, 3) := by decide +kernel
theorem dX10_chooseMeet_4 : decode cX10_chooseMeet 4 = .ok (.iconst 0, 1) := by decide +kernel
theorem dX10_chooseMeet_5 : decode cX10_chooseMeet 5 = .ok (.putfield 401, 3) := by decide +kernel
theorem dX10_chooseMeet_8 : decode cX10_chooseMeet 8 = .ok (.iconst 0, 1) := by decide +kernel
theorem dX10_chooseMeet_9 : decode cX10_chooseMeet 9 = .ok (.istore_n 2, 1) := by decide +kernel
theorem dX10_chooseMeet_10 : decode cX10_chooseMeet 10 = .ok (.iload_n 2, 1) := by decide +kernel
theorem dX10_chooseMeet_11 : decode cX10_chooseMeet 11 = .ok (.aload_n 0, 1) := by decide +kernel
theorem dX10_chooseMeet_12 : decode cX10_chooseMeet 12 = .ok (.getfield 22, 3) := by decide +kernel
theorem dX10_chooseMeet_15 : decode cX10_chooseMeet 15 = .ok (.getfield 132, 3) := by decide +kernel
theorem dX10_chooseMeet_18 : decode cX10_chooseMeet 18 = .ok (.if_icmp .ge 37, 3) := by decide +kernel
theorem dX10_chooseMeet_21 : decode cX10_chooseMeet 21 = .ok (.iload_n 2, 1) := by decide +kernel
theorem dX10_chooseMeet_22 : decode cX10_chooseMeet 22 = .ok (.iconst 1, 1) := by decide +kernel
theorem dX10_chooseMeet_23 : decode cX10_chooseMeet 23 = .ok (.iadd, 1) := by decide +kernel
theorem dX10_chooseMeet_24 : decode cX10_chooseMeet 24 = .ok (.istore_n 3, 1) := by decide +kernel
theorem dX10_chooseMeet_25 : decode cX10_chooseMeet 25 = .ok (.iload_n 3, 1) := by decide +kernel
theorem dX10_chooseMeet_26 : decode cX10_chooseMeet 26 = .ok (.aload_n 0, 1) := by decide +kernel
theorem dX10_chooseMeet_27 : decode cX10_chooseMeet 27 = .ok (.getfield 22, 3) := by decide +kernel
theorem dX10_chooseMeet_30 : decode cX10_chooseMeet 30 = .ok (.getfield 132, 3) := by decide +kernel
theorem dX10_chooseMeet_33 : decode cX10_chooseMeet 33 = .ok (.if_icmp .ge 16, 3) := by decide +kernel
theorem dX10_chooseMeet_36 : decode cX10_chooseMeet 36 = .ok (.aload_n 0, 1) := by decide +kernel
theorem dX10_chooseMeet_37 : decode cX10_chooseMeet 37 = .ok (.iload_n 2, 1) := by decide +kernel
theorem dX10_chooseMeet_38 : decode cX10_chooseMeet 38 = .ok (.iload_n 3, 1) := by decide +kernel
theorem dX10_chooseMeet_39 : decode cX10_chooseMeet 39 = .ok (.iload_n 1, 1) := by decide +kernel
theorem dX10_chooseMeet_40 : decode cX10_chooseMeet 40 = .ok (.invokevirtual 416, 3) := by decide +kernel
theorem dX10_chooseMeet_43 : decode cX10_chooseMeet 43 = .ok (.iinc 3 1, 3) := by decide +kernel
theorem dX10_chooseMeet_46 : decode cX10_chooseMeet 46 = .ok (.goto (-21), 3) := by decide +kernel
theorem dX10_chooseMeet_49 : decode cX10_chooseMeet 49 = .ok (.iinc 2 1, 3) := by decide +kernel
theorem dX10_chooseMeet_52 : decode cX10_chooseMeet 52 = .ok (.goto (-42), 3) := by decide +kernel
theorem dX10_chooseMeet_55 : decode cX10_chooseMeet 55 = .ok (.aload_n 0, 1) := by decide +kernel
theorem dX10_chooseMeet_56 : decode cX10_chooseMeet 56 = .ok (.getfield 49, 3) := by decide +kernel
theorem dX10_chooseMeet_59 : decode cX10_chooseMeet 59 = .ok (.aload_n 0, 1) := by decide +kernel
theorem dX10_chooseMeet_60 : decode cX10_chooseMeet 60 = .ok (.getfield 22, 3) := by decide +kernel
theorem dX10_chooseMeet_63 : decode cX10_chooseMeet 63 = .ok (.getfield 132, 3) := by decide +kernel
theorem dX10_chooseMeet_66 : decode cX10_chooseMeet 66 = .ok (.iconst 2, 1) := by decide +kernel
theorem dX10_chooseMeet_67 : decode cX10_chooseMeet 67 = .ok (.idiv, 1) := by decide +kernel
theorem dX10_chooseMeet_68 : decode cX10_chooseMeet 68 = .ok (.invokevirtual 413, 3) := by decide +kernel
theorem dX10_chooseMeet_71 : decode cX10_chooseMeet 71 = .ok (.return_, 1) := by decide +kernel
theorem dX10_addTwo_0 : decode cX10_addTwo 0 = .ok (.iconst 1, 1) := by decide +kernel
theorem dX10_addTwo_1 : decode cX10_addTwo 1 = .ok (.iload_n 1, 1) := by decide +kernel
theorem dX10_addTwo_2 : decode cX10_addTwo 2 = .ok (.ishl, 1) := by decide +kernel
theorem dX10_addTwo_3 : decode cX10_addTwo 3 = .ok (.iconst 1, 1) := by decide +kernel
theorem dX10_addTwo_4 : decode cX10_addTwo 4 = .ok (.iload_n 2, 1) := by decide +kernel
theorem dX10_addTwo_5 : decode cX10_addTwo 5 = .ok (.ishl, 1) := by decide +kernel
theorem dX10_addTwo_6 : decode cX10_addTwo 6 = .ok (.ior, 1) := by decide +kernel
theorem dX10_addTwo_7 : decode cX10_addTwo 7 = .ok (.istore 4, 2) := by decide +kernel
theorem dX10_addTwo_9 : decode cX10_addTwo 9 = .ok (.aload_n 0, 1) := by decide +kernel
theorem dX10_addTwo_10 : decode cX10_addTwo 10 = .ok (.getfield 26, 3) := by decide +kernel
theorem dX10_addTwo_13 : decode cX10_addTwo 13 = .ok (.iload_n 1, 1) := by decide +kernel
theorem dX10_addTwo_14 : decode cX10_addTwo 14 = .ok (.iload_n 2, 1) := by decide +kernel
theorem dX10_addTwo_15 : decode cX10_addTwo 15 = .ok (.invokevirtual 177, 3) := by decide +kernel
theorem dX10_addTwo_18 : decode cX10_addTwo 18 = .ok (.istore 5, 2) := by decide +kernel
theorem dX10_addTwo_20 : decode cX10_addTwo 20 = .ok (.iload 5, 2) := by decide +kernel
theorem dX10_addTwo_22 : decode cX10_addTwo 22 = .ok (.ifCond .lt 31, 3) := by decide +kernel
theorem dX10_addTwo_25 : decode cX10_addTwo 25 = .ok (.aload_n 0, 1) := by decide +kernel
theorem dX10_addTwo_26 : decode cX10_addTwo 26 = .ok (.getfield 49, 3) := by decide +kernel
theorem dX10_addTwo_29 : decode cX10_addTwo 29 = .ok (.iload 4, 2) := by decide +kernel
theorem dX10_addTwo_31 : decode cX10_addTwo 31 = .ok (.aload_n 0, 1) := by decide +kernel
theorem dX10_addTwo_32 : decode cX10_addTwo 32 = .ok (.iload 5, 2) := by decide +kernel
theorem dX10_addTwo_34 : decode cX10_addTwo 34 = .ok (.iload_n 3, 1) := by decide +kernel
theorem dX10_addTwo_35 : decode cX10_addTwo 35 = .ok (.invokevirtual 222, 3) := by decide +kernel
theorem dX10_addTwo_38 : decode cX10_addTwo 38 = .ok (.ifCond .eq 7, 3) := by decide +kernel
theorem dX10_addTwo_41 : decode cX10_addTwo 41 = .ok (.iconst 0, 1) := by decide +kernel
theorem dX10_addTwo_42 : decode cX10_addTwo 42 = .ok (.goto 4, 3) := by decide +kernel
theorem dX10_addTwo_45 : decode cX10_addTwo 45 = .ok (.iconst (-1), 1) := by decide +kernel
theorem dX10_addTwo_46 : decode cX10_addTwo 46 = .ok (.iconst 0, 1) := by decide +kernel
theorem dX10_addTwo_47 : decode cX10_addTwo 47 = .ok (.invokevirtual 410, 3) := by decide +kernel
theorem dX10_addTwo_50 : decode cX10_addTwo 50 = .ok (.goto 67, 3) := by decide +kernel
theorem dX10_addTwo_53 : decode cX10_addTwo 53 = .ok (.aload_n 0, 1) := by decide +kernel
theorem dX10_addTwo_54 : decode cX10_addTwo 54 = .ok (.getfield 26, 3) := by decide +kernel
theorem dX10_addTwo_57 : decode cX10_addTwo 57 = .ok (.getfield 138, 3) := by decide +kernel
theorem dX10_addTwo_60 : decode cX10_addTwo 60 = .ok (.iload_n 1, 1) := by decide +kernel
theorem dX10_addTwo_61 : decode cX10_addTwo 61 = .ok (.iaload, 1) := by decide +kernel
theorem dX10_addTwo_62 : decode cX10_addTwo 62 = .ok (.aload_n 0, 1) := by decide +kernel
theorem dX10_addTwo_63 : decode cX10_addTwo 63 = .ok (.getfield 26, 3) := by decide +kernel
theorem dX10_addTwo_66 : decode cX10_addTwo 66 = .ok (.getfield 138, 3) := by decide +kernel
theorem dX10_addTwo_69 : decode cX10_addTwo 69 = .ok (.iload_n 2, 1) := by decide +kernel
theorem dX10_addTwo_70 : decode cX10_addTwo 70 = .ok (.iaload, 1) := by decide +kernel
theorem dX10_addTwo_71 : decode cX10_addTwo 71 = .ok (.isub, 1) := by decide +kernel
theorem dX10_addTwo_72 : decode cX10_addTwo 72 = .ok (.invokestatic 385, 3) := by decide +kernel
theorem dX10_addTwo_75 : decode cX10_addTwo 75 = .ok (.istore 6, 2) := by decide +kernel
theorem dX10_addTwo_77 : decode cX10_addTwo 77 = .ok (.aload_n 0, 1) := by decide +kernel
theorem dX10_addTwo_78 : decode cX10_addTwo 78 = .ok (.getfield 49, 3) := by decide +kernel
theorem dX10_addTwo_81 : decode cX10_addTwo 81 = .ok (.iload 4, 2) := by decide +kernel
theorem dX10_addTwo_83 : decode cX10_addTwo 83 = .ok (.iconst 0, 1) := by decide +kernel
theorem dX10_addTwo_84 : decode cX10_addTwo 84 = .ok (.iload_n 3, 1) := by decide +kernel
theorem dX10_addTwo_85 : decode cX10_addTwo 85 = .ok (.iload 6, 2) := by decide +kernel
theorem dX10_addTwo_87 : decode cX10_addTwo 87 = .ok (.aload_n 0, 1) := by decide +kernel
theorem dX10_addTwo_88 : decode cX10_addTwo 88 = .ok (.getfield 22, 3) := by decide +kernel
theorem dX10_addTwo_91 : decode cX10_addTwo 91 = .ok (.getfield 370, 3) := by decide +kernel
theorem dX10_addTwo_94 : decode cX10_addTwo 94 = .ok (.invokestatic 394, 3) := by decide +kernel
theorem dX10_addTwo_97 : decode cX10_addTwo 97 = .ok (.ifCond .eq 7, 3) := by decide +kernel
theorem dX10_addTwo_100 : decode cX10_addTwo 100 = .ok (.iconst 1, 1) := by decide +kernel
theorem dX10_addTwo_101 : decode cX10_addTwo 101 = .ok (.goto 4, 3) := by decide +kernel
theorem dX10_addTwo_104 : decode cX10_addTwo 104 = .ok (.iconst (-1), 1) := by decide +kernel
theorem dX10_addTwo_105 : decode cX10_addTwo 105 = .ok (.iconst 1, 1) := by decide +kernel
theorem dX10_addTwo_106 : decode cX10_addTwo 106 = .ok (.aload_n 0, 1) := by decide +kernel
theorem dX10_addTwo_107 : decode cX10_addTwo 107 = .ok (.getfield 49, 3) := by decide +kernel
theorem dX10_addTwo_110 : decode cX10_addTwo 110 = .ok (.getfield 401, 3) := by decide +kernel
theorem dX10_addTwo_113 : decode cX10_addTwo 113 = .ok (.ishl, 1) := by decide +kernel
theorem dX10_addTwo_114 : decode cX10_addTwo 114 = .ok (.invokevirtual 410, 3) := by decide +kernel
theorem dX10_addTwo_117 : decode cX10_addTwo 117 = .ok (.return_, 1) := by decide +kernel
theorem dX10_shareOf_0 : decode cX10_shareOf 0 = .ok (.iload_n 1, 1) := by decide +kernel
theorem dX10_shareOf_1 : decode cX10_shareOf 1 = .ok (.ifCond .eq 14, 3) := by decide +kernel
theorem dX10_shareOf_4 : decode cX10_shareOf 4 = .ok (.iload_n 2, 1) := by decide +kernel
theorem dX10_shareOf_5 : decode cX10_shareOf 5 = .ok (.ifCond .eq 8, 3) := by decide +kernel
theorem dX10_shareOf_8 : decode cX10_shareOf 8 = .ok (.iload_n 0, 1) := by decide +kernel
theorem dX10_shareOf_9 : decode cX10_shareOf 9 = .ok (.ineg, 1) := by decide +kernel
theorem dX10_shareOf_10 : decode cX10_shareOf 10 = .ok (.goto 4, 3) := by decide +kernel
theorem dX10_shareOf_13 : decode cX10_shareOf 13 = .ok (.iconst 0, 1) := by decide +kernel
theorem dX10_shareOf_14 : decode cX10_shareOf 14 = .ok (.ireturn, 1) := by decide +kernel
theorem dX10_shareOf_15 : decode cX10_shareOf 15 = .ok (.iload_n 2, 1) := by decide +kernel
theorem dX10_shareOf_16 : decode cX10_shareOf 16 = .ok (.ifCond .eq 7, 3) := by decide +kernel
theorem dX10_shareOf_19 : decode cX10_shareOf 19 = .ok (.iconst 4, 1) := by decide +kernel
theorem dX10_shareOf_20 : decode cX10_shareOf 20 = .ok (.goto 4, 3) := by decide +kernel
theorem dX10_shareOf_23 : decode cX10_shareOf 23 = .ok (.iconst 2, 1) := by decide +kernel
theorem dX10_shareOf_24 : decode cX10_shareOf 24 = .ok (.ireturn, 1) := by decide +kernel
theorem dX10_isRest_0 : decode cX10_isRest 0 = .ok (.iload_n 0, 1) := by decide +kernel
theorem dX10_isRest_1 : decode cX10_isRest 1 = .ok (.iload_n 1, 1) := by decide +kernel
theorem dX10_isRest_2 : decode cX10_isRest 2 = .ok (.iload_n 2, 1) := by decide +kernel
theorem dX10_isRest_3 : decode cX10_isRest 3 = .ok (.invokestatic 310, 3) := by decide +kernel
theorem dX10_isRest_6 : decode cX10_isRest 6 = .ok (.iload_n 0, 1) := by decide +kernel
theorem dX10_isRest_7 : decode cX10_isRest 7 = .ok (.iload_n 1, 1) := by decide +kernel
theorem dX10_isRest_8 : decode cX10_isRest 8 = .ok (.ifCond .ne 7, 3) := by decide +kernel
theorem dX10_isRest_11 : decode cX10_isRest 11 = .ok (.iconst 1, 1) := by decide +kernel
theorem dX10_isRest_12 : decode cX10_isRest 12 = .ok (.goto 4, 3) := by decide +kernel
theorem dX10_isRest_15 : decode cX10_isRest 15 = .ok (.iconst 0, 1) := by decide +kernel
theorem dX10_isRest_16 : decode cX10_isRest 16 = .ok (.iload_n 2, 1) := by decide +kernel
theorem dX10_isRest_17 : decode cX10_isRest 17 = .ok (.invokestatic 310, 3) := by decide +kernel
theorem dX10_isRest_20 : decode cX10_isRest 20 = .ok (.if_icmp .lt 30, 3) := by decide +kernel
theorem dX10_isRest_23 : decode cX10_isRest 23 = .ok (.iload_n 0, 1) := by decide +kernel
theorem dX10_isRest_24 : decode cX10_isRest 24 = .ok (.iload_n 2, 1) := by decide +kernel
theorem dX10_isRest_25 : decode cX10_isRest 25 = .ok (.iload_n 1, 1) := by decide +kernel
theorem dX10_isRest_26 : decode cX10_isRest 26 = .ok (.invokestatic 310, 3) := by decide +kernel
theorem dX10_isRest_29 : decode cX10_isRest 29 = .ok (.iload_n 0, 1) := by decide +kernel
theorem dX10_isRest_30 : decode cX10_isRest 30 = .ok (.iload_n 2, 1) := by decide +kernel
theorem dX10_isRest_31 : decode cX10_isRest 31 = .ok (.ifCond .ne 7, 3) := by decide +kernel
theorem dX10_isRest_34 : decode cX10_isRest 34 = .ok (.iconst 1, 1) := by decide +kernel
theorem dX10_isRest_35 : decode cX10_isRest 35 = .ok (.goto 4, 3) := by decide +kernel
theorem dX10_isRest_38 : decode cX10_isRest 38 = .ok (.iconst 0, 1) := by decide +kernel
theorem dX10_isRest_39 : decode cX10_isRest 39 = .ok (.iload_n 1, 1) := by decide +kernel
theorem dX10_isRest_40 : decode cX10_isRest 40 = .ok (.invokestatic 310, 3) := by decide +kernel
theorem dX10_isRest_43 : decode cX10_isRest 43 = .ok (.if_icmp .lt 7, 3) := by decide +kernel
theorem dX10_isRest_46 : decode cX10_isRest 46 = .ok (.iconst 1, 1) := by decide +kernel
theorem dX10_isRest_47 : decode cX10_isRest 47 = .ok (.goto 4, 3) := by decide +kernel
theorem dX10_isRest_50 : decode cX10_isRest 50 = .ok (.iconst 0, 1) := by decide +kernel
theorem dX10_isRest_51 : decode cX10_isRest 51 = .ok (.ireturn, 1) := by decide +kernel
theorem dX10_expected_0 : decode cX10_expected 0 = .ok (.iload_n 3, 1) := by decide +kernel
theorem dX10_expected_1 : decode cX10_expected 1 = .ok (.ifCond .gt 48, 3) := by decide +kernel
theorem dX10_expected_4 : decode cX10_expected 4 = .ok (.iload 4, 2) := by decide +kernel
theorem dX10_expected_6 : decode cX10_expected 6 = .ok (.ifCond .eq 6, 3) := by decide +kernel
theorem dX10_expected_9 : decode cX10_expected 9 = .ok (.iload_n 2, 1) := by decide +kernel
theorem dX10_expected_10 : decode cX10_expected 10 = .ok (.i2l, 1) := by decide +kernel
theorem dX10_expected_11 : decode cX10_expected 11 = .ok (.lreturn, 1) := by decide +kernel
theorem dX10_expected_12 : decode cX10_expected 12 = .ok (.aload_n 0, 1) := by decide +kernel
theorem dX10_expected_13 : decode cX10_expected 13 = .ok (.getfield 26, 3) := by decide +kernel
theorem dX10_expected_16 : decode cX10_expected 16 = .ok (.getfield 157, 3) := by decide +kernel
theorem dX10_expected_19 : decode cX10_expected 19 = .ok (.iload_n 1, 1) := by decide +kernel
theorem dX10_expected_20 : decode cX10_expected 20 = .ok (.iaload, 1) := by decide +kernel
theorem dX10_expected_21 : decode cX10_expected 21 = .ok (.iload_n 2, 1) := by decide +kernel
theorem dX10_expected_22 : decode cX10_expected 22 = .ok (.aload_n 0, 1) := by decide +kernel
theorem dX10_expected_23 : decode cX10_expected 23 = .ok (.getfield 26, 3) := by decide +kernel
theorem dX10_expected_26 : decode cX10_expected 26 = .ok (.iload_n 1, 1) := by decide +kernel
theorem dX10_expected_27 : decode cX10_expected 27 = .ok (.invokevirtual 391, 3) := by decide +kernel
theorem dX10_expected_30 : decode cX10_expected 30 = .ok (.aload_n 0, 1) := by decide +kernel
theorem dX10_expected_31 : decode cX10_expected 31 = .ok (.getfield 22, 3) := by decide +kernel
theorem dX10_expected_34 : decode cX10_expected 34 = .ok (.getfield 370, 3) := by decide +kernel
theorem dX10_expected_37 : decode cX10_expected 37 = .ok (.invokestatic 394, 3) := by decide +kernel
theorem dX10_expected_40 : decode cX10_expected 40 = .ok (.ifCond .eq 7, 3) := by decide +kernel
theorem dX10_expected_43 : decode cX10_expected 43 = .ok (.lconst 1, 1) := by decide +kernel
theorem dX10_expected_44 : decode cX10_expected 44 = .ok (.goto 4, 3) := by decide +kernel
theorem dX10_expected_47 : decode cX10_expected 47 = .ok (.lconst 0, 1) := by decide +kernel
theorem dX10_expected_48 : decode cX10_expected 48 = .ok (.lreturn, 1) := by decide +kernel
theorem dX10_expected_49 : decode cX10_expected 49 = .ok (.aload_n 0, 1) := by decide +kernel
theorem dX10_expected_50 : decode cX10_expected 50 = .ok (.getfield 26, 3) := by decide +kernel
theorem dX10_expected_53 : decode cX10_expected 53 = .ok (.getfield 157, 3) := by decide +kernel
theorem dX10_expected_56 : decode cX10_expected 56 = .ok (.iload_n 1, 1) := by decide +kernel
theorem dX10_expected_57 : decode cX10_expected 57 = .ok (.iaload, 1) := by decide +kernel
theorem dX10_expected_58 : decode cX10_expected 58 = .ok (.iconst 2, 1) := by decide +kernel
theorem dX10_expected_59 : decode cX10_expected 59 = .ok (.if_icmp .ne 7, 3) := by decide +kernel
theorem dX10_expected_62 : decode cX10_expected 62 = .ok (.iload_n 2, 1) := by decide +kernel
theorem dX10_expected_63 : decode cX10_expected 63 = .ok (.goto 6, 3) := by decide +kernel
theorem dX10_expected_66 : decode cX10_expected 66 = .ok (.iload_n 2, 1) := by decide +kernel
theorem dX10_expected_67 : decode cX10_expected 67 = .ok (.iconst 1, 1) := by decide +kernel
theorem dX10_expected_68 : decode cX10_expected 68 = .ok (.iadd, 1) := by decide +kernel
theorem dX10_expected_69 : decode cX10_expected 69 = .ok (.istore 5, 2) := by decide +kernel
theorem dX10_expected_71 : decode cX10_expected 71 = .ok (.aload_n 0, 1) := by decide +kernel
theorem dX10_expected_72 : decode cX10_expected 72 = .ok (.getfield 26, 3) := by decide +kernel
theorem dX10_expected_75 : decode cX10_expected 75 = .ok (.getfield 157, 3) := by decide +kernel
theorem dX10_expected_78 : decode cX10_expected 78 = .ok (.iload_n 1, 1) := by decide +kernel
theorem dX10_expected_79 : decode cX10_expected 79 = .ok (.iaload, 1) := by decide +kernel
theorem dX10_expected_80 : decode cX10_expected 80 = .ok (.iconst 2, 1) := by decide +kernel
theorem dX10_expected_81 : decode cX10_expected 81 = .ok (.if_icmp .ne 7, 3) := by decide +kernel
theorem dX10_expected_84 : decode cX10_expected 84 = .ok (.iload_n 2, 1) := by decide +kernel
theorem dX10_expected_85 : decode cX10_expected 85 = .ok (.goto 18, 3) := by decide +kernel
theorem dX10_expected_88 : decode cX10_expected 88 = .ok (.iload 5, 2) := by decide +kernel
theorem dX10_expected_90 : decode cX10_expected 90 = .ok (.aload_n 0, 1) := by decide +kernel
theorem dX10_expected_91 : decode cX10_expected 91 = .ok (.getfield 22, 3) := by decide +kernel
theorem dX10_expected_94 : decode cX10_expected 94 = .ok (.getfield 349, 3) := by decide +kernel
theorem dX10_expected_97 : decode cX10_expected 97 = .ok (.iload 5, 2) := by decide +kernel
theorem dX10_expected_99 : decode cX10_expected 99 = .ok (.invokestatic 352, 3) := by decide +kernel
theorem dX10_expected_102 : decode cX10_expected 102 = .ok (.isub, 1) := by decide +kernel
theorem dX10_expected_103 : decode cX10_expected 103 = .ok (.istore 6, 2) := by decide +kernel
theorem dX10_expected_105 : decode cX10_expected 105 = .ok (.aload_n 0, 1) := by decide +kernel
theorem dX10_expected_106 : decode cX10_expected 106 = .ok (.getfield 22, 3) := by decide +kernel
theorem dX10_expected_109 : decode cX10_expected 109 = .ok (.getfield 373, 3) := by decide +kernel
theorem dX10_expected_112 : decode cX10_expected 112 = .ok (.i2l, 1) := by decide +kernel
theorem dX10_expected_113 : decode cX10_expected 113 = .ok (.lstore 7, 2) := by decide +kernel
theorem dX10_expected_115 : decode cX10_expected 115 = .ok (.lload 7, 2) := by decide +kernel
theorem dX10_expected_117 : decode cX10_expected 117 = .ok (.aload_n 0, 1) := by decide +kernel
theorem dX10_expected_118 : decode cX10_expected 118 = .ok (.iload_n 1, 1) := by decide +kernel
theorem dX10_expected_119 : decode cX10_expected 119 = .ok (.iload 6, 2) := by decide +kernel
theorem dX10_expected_121 : decode cX10_expected 121 = .ok (.iload_n 3, 1) := by decide +kernel
theorem dX10_expected_122 : decode cX10_expected 122 = .ok (.iconst 1, 1) := by decide +kernel
theorem dX10_expected_123 : decode cX10_expected 123 = .ok (.isub, 1) := by decide +kernel
theorem dX10_expected_124 : decode cX10_expected 124 = .ok (.iload 4, 2) := by decide +kernel
theorem dX10_expected_126 : decode cX10_expected 126 = .ok (.invokevirtual 320, 3) := by decide +kernel
theorem dX10_expected_129 : decode cX10_expected 129 = .ok (.lmul, 1) := by decide +kernel
theorem dX10_expected_130 : decode cX10_expected 130 = .ok (.ldc2_w 419, 3) := by decide +kernel
theorem dX10_expected_133 : decode cX10_expected 133 = .ok (.lload 7, 2) := by decide +kernel
theorem dX10_expected_135 : decode cX10_expected 135 = .ok (.lsub, 1) := by decide +kernel
theorem dX10_expected_136 : decode cX10_expected 136 = .ok (.aload_n 0, 1) := by decide +kernel
theorem dX10_expected_137 : decode cX10_expected 137 = .ok (.iload_n 1, 1) := by decide +kernel
theorem dX10_expected_138 : decode cX10_expected 138 = .ok (.iload 5, 2) := by decide +kernel
theorem dX10_expected_140 : decode cX10_expected 140 = .ok (.iload_n 3, 1) := by decide +kernel
theorem dX10_expected_141 : decode cX10_expected 141 = .ok (.iconst 1, 1) := by decide +kernel
theorem dX10_expected_142 : decode cX10_expected 142 = .ok (.isub, 1) := by decide +kernel
theorem dX10_expected_143 : decode cX10_expected 143 = .ok (.iload 4, 2) := by decide +kernel
theorem dX10_expected_145 : decode cX10_expected 145 = .ok (.invokevirtual 320, 3) := by decide +kernel
theorem dX10_expected_148 : decode cX10_expected 148 = .ok (.lmul, 1) := by decide +kernel
theorem dX10_expected_149 : decode cX10_expected 149 = .ok (.ladd, 1) := by decide +kernel
theorem dX10_expected_150 : decode cX10_expected 150 = .ok (.lreturn, 1) := by decide +kernel
theorem dX10_hundredTo_0 : decode cX10_hundredTo 0 = .ok (.lconst 1, 1) := by decide +kernel
theorem dX10_hundredTo_1 : decode cX10_hundredTo 1 = .ok (.lstore_n 1, 1) := by decide +kernel
theorem dX10_hundredTo_2 : decode cX10_hundredTo 2 = .ok (.iconst 0, 1) := by decide +kernel
theorem dX10_hundredTo_3 : decode cX10_hundredTo 3 = .ok (.istore_n 3, 1) := by decide +kernel
theorem dX10_hundredTo_4 : decode cX10_hundredTo 4 = .ok (.iload_n 3, 1) := by decide +kernel
theorem dX10_hundredTo_5 : decode cX10_hundredTo 5 = .ok (.iload_n 0, 1) := by decide +kernel
theorem dX10_hundredTo_6 : decode cX10_hundredTo 6 = .ok (.if_icmp .ge 15, 3) := by decide +kernel
theorem dX10_hundredTo_9 : decode cX10_hundredTo 9 = .ok (.lload_n 1, 1) := by decide +kernel
theorem dX10_hundredTo_10 : decode cX10_hundredTo 10 = .ok (.ldc2_w 419, 3) := by decide +kernel
theorem dX10_hundredTo_13 : decode cX10_hundredTo 13 = .ok (.lmul, 1) := by decide +kernel
theorem dX10_hundredTo_14 : decode cX10_hundredTo 14 = .ok (.lstore_n 1, 1) := by decide +kernel
theorem dX10_hundredTo_15 : decode cX10_hundredTo 15 = .ok (.iinc 3 1, 3) := by decide +kernel
theorem dX10_hundredTo_18 : decode cX10_hundredTo 18 = .ok (.goto (-14), 3) := by decide +kernel
theorem dX10_hundredTo_21 : decode cX10_hundredTo 21 = .ok (.lload_n 1, 1) := by decide +kernel
theorem dX10_hundredTo_22 : decode cX10_hundredTo 22 = .ok (.lreturn, 1) := by decide +kernel
theorem dX10_lowestTerm_0 : decode cX10_lowestTerm 0 = .ok (.lload_n 2, 1) := by decide +kernel
theorem dX10_lowestTerm_1 : decode cX10_lowestTerm 1 = .ok (.lstore 5, 2) := by decide +kernel
theorem dX10_lowestTerm_3 : decode cX10_lowestTerm 3 = .ok (.lload_n 0, 1) := by decide +kernel
theorem dX10_lowestTerm_4 : decode cX10_lowestTerm 4 = .ok (.lstore 7, 2) := by decide +kernel
theorem dX10_lowestTerm_6 : decode cX10_lowestTerm 6 = .ok (.iconst 0, 1) := by decide +kernel
theorem dX10_lowestTerm_7 : decode cX10_lowestTerm 7 = .ok (.istore 9, 2) := by decide +kernel
theorem dX10_lowestTerm_9 : decode cX10_lowestTerm 9 = .ok (.iload 9, 2) := by decide +kernel
theorem dX10_lowestTerm_11 : decode cX10_lowestTerm 11 = .ok (.sipush 200, 3) := by decide +kernel
theorem dX10_lowestTerm_14 : decode cX10_lowestTerm 14 = .ok (.if_icmp .ge 31, 3) := by decide +kernel
theorem dX10_lowestTerm_17 : decode cX10_lowestTerm 17 = .ok (.lload 7, 2) := by decide +kernel
theorem dX10_lowestTerm_19 : decode cX10_lowestTerm 19 = .ok (.lconst 0, 1) := by decide +kernel
theorem dX10_lowestTerm_20 : decode cX10_lowestTerm 20 = .ok (.lcmp, 1) := by decide +kernel
theorem dX10_lowestTerm_21 : decode cX10_lowestTerm 21 = .ok (.ifCond .eq 24, 3) := by decide +kernel
theorem dX10_lowestTerm_24 : decode cX10_lowestTerm 24 = .ok (.lload 5, 2) := by decide +kernel
theorem dX10_lowestTerm_26 : decode cX10_lowestTerm 26 = .ok (.lload 7, 2) := by decide +kernel
theorem dX10_lowestTerm_28 : decode cX10_lowestTerm 28 = .ok (.lrem, 1) := by decide +kernel
theorem dX10_lowestTerm_29 : decode cX10_lowestTerm 29 = .ok (.lstore 10, 2) := by decide +kernel
theorem dX10_lowestTerm_31 : decode cX10_lowestTerm 31 = .ok (.lload 7, 2) := by decide +kernel
theorem dX10_lowestTerm_33 : decode cX10_lowestTerm 33 = .ok (.lstore 5, 2) := by decide +kernel
theorem dX10_lowestTerm_35 : decode cX10_lowestTerm 35 = .ok (.lload 10, 2) := by decide +kernel
theorem dX10_lowestTerm_37 : decode cX10_lowestTerm 37 = .ok (.lstore 7, 2) := by decide +kernel
theorem dX10_lowestTerm_39 : decode cX10_lowestTerm 39 = .ok (.iinc 9 1, 3) := by decide +kernel
theorem dX10_lowestTerm_42 : decode cX10_lowestTerm 42 = .ok (.goto (-33), 3) := by decide +kernel
theorem dX10_lowestTerm_45 : decode cX10_lowestTerm 45 = .ok (.lload 5, 2) := by decide +kernel
theorem dX10_lowestTerm_47 : decode cX10_lowestTerm 47 = .ok (.lconst 0, 1) := by decide +kernel
theorem dX10_lowestTerm_48 : decode cX10_lowestTerm 48 = .ok (.lcmp, 1) := by decide +kernel
theorem dX10_lowestTerm_49 : decode cX10_lowestTerm 49 = .ok (.ifCond .ne 5, 3) := by decide +kernel
theorem dX10_lowestTerm_52 : decode cX10_lowestTerm 52 = .ok (.lconst 0, 1) := by decide +kernel
theorem dX10_lowestTerm_53 : decode cX10_lowestTerm 53 = .ok (.lreturn, 1) := by decide +kernel
theorem dX10_lowestTerm_54 : decode cX10_lowestTerm 54 = .ok (.iload 4, 2) := by decide +kernel
theorem dX10_lowestTerm_56 : decode cX10_lowestTerm 56 = .ok (.ifCond .eq 10, 3) := by decide +kernel
theorem dX10_lowestTerm_59 : decode cX10_lowestTerm 59 = .ok (.lload_n 2, 1) := by decide +kernel
theorem dX10_lowestTerm_60 : decode cX10_lowestTerm 60 = .ok (.lload 5, 2) := by decide +kernel
theorem dX10_lowestTerm_62 : decode cX10_lowestTerm 62 = .ok (.ldiv, 1) := by decide +kernel
theorem dX10_lowestTerm_63 : decode cX10_lowestTerm 63 = .ok (.goto 7, 3) := by decide +kernel
theorem dX10_lowestTerm_66 : decode cX10_lowestTerm 66 = .ok (.lload_n 0, 1) := by decide +kernel
theorem dX10_lowestTerm_67 : decode cX10_lowestTerm 67 = .ok (.lload 5, 2) := by decide +kernel
theorem dX10_lowestTerm_69 : decode cX10_lowestTerm 69 = .ok (.ldiv, 1) := by decide +kernel
theorem dX10_lowestTerm_70 : decode cX10_lowestTerm 70 = .ok (.lreturn, 1) := by decide +kernel
theorem dX10_draw_0 : decode cX10_draw 0 = .ok (.aload_n 0, 1) := by decide +kernel
theorem dX10_draw_1 : decode cX10_draw 1 = .ok (.getfield 35, 3) := by decide +kernel
theorem dX10_draw_4 : decode cX10_draw 4 = .ok (.invokevirtual 247, 3) := by decide +kernel
theorem dX10_draw_7 : decode cX10_draw 7 = .ok (.iload_n 1, 1) := by decide +kernel
theorem dX10_draw_8 : decode cX10_draw 8 = .ok (.istore_n 3, 1) := by decide +kernel
theorem dX10_draw_9 : decode cX10_draw 9 = .ok (.iconst 0, 1) := by decide +kernel
theorem dX10_draw_10 : decode cX10_draw 10 = .ok (.istore 4, 2) := by decide +kernel
theorem dX10_draw_12 : decode cX10_draw 12 = .ok (.iload 4, 2) := by decide +kernel
theorem dX10_draw_14 : decode cX10_draw 14 = .ok (.iload_n 2, 1) := by decide +kernel
theorem dX10_draw_15 : decode cX10_draw 15 = .ok (.if_icmp .ge 126, 3) := by decide +kernel
theorem dX10_draw_18 : decode cX10_draw 18 = .ok (.iconst 0, 1) := by decide +kernel
theorem dX10_draw_19 : decode cX10_draw 19 = .ok (.istore 5, 2) := by decide +kernel
theorem dX10_draw_21 : decode cX10_draw 21 = .ok (.iload 5, 2) := by decide +kernel
theorem dX10_draw_23 : decode cX10_draw 23 = .ok (.aload_n 0, 1) := by decide +kernel
theorem dX10_draw_24 : decode cX10_draw 24 = .ok (.getfield 26, 3) := by decide +kernel
theorem dX10_draw_27 : decode cX10_draw 27 = .ok (.getfield 282, 3) := by decide +kernel
theorem dX10_draw_30 : decode cX10_draw 30 = .ok (.if_icmp .ge 105, 3) := by decide +kernel
theorem dX10_draw_33 : decode cX10_draw 33 = .ok (.bipush 75, 2) := by decide +kernel
theorem dX10_draw_35 : decode cX10_draw 35 = .ok (.iload_n 3, 1) := by decide +kernel
theorem dX10_draw_36 : decode cX10_draw 36 = .ok (.imul, 1) := by decide +kernel
theorem dX10_draw_37 : decode cX10_draw 37 = .ok (.bipush 74, 2) := by decide +kernel
theorem dX10_draw_39 : decode cX10_draw 39 = .ok (.iadd, 1) := by decide +kernel
theorem dX10_draw_40 : decode cX10_draw 40 = .ok (.ldc_w 421, 3) := by decide +kernel
theorem dX10_draw_43 : decode cX10_draw 43 = .ok (.irem, 1) := by decide +kernel
theorem dX10_draw_44 : decode cX10_draw 44 = .ok (.istore_n 3, 1) := by decide +kernel
theorem dX10_draw_45 : decode cX10_draw 45 = .ok (.aload_n 0, 1) := by decide +kernel
theorem dX10_draw_46 : decode cX10_draw 46 = .ok (.getfield 26, 3) := by decide +kernel
theorem dX10_draw_49 : decode cX10_draw 49 = .ok (.getfield 157, 3) := by decide +kernel
theorem dX10_draw_52 : decode cX10_draw 52 = .ok (.iload 5, 2) := by decide +kernel
theorem dX10_draw_54 : decode cX10_draw 54 = .ok (.iaload, 1) := by decide +kernel
theorem dX10_draw_55 : decode cX10_draw 55 = .ok (.iconst 2, 1) := by decide +kernel
theorem dX10_draw_56 : decode cX10_draw 56 = .ok (.if_icmp .eq 73, 3) := by decide +kernel
theorem dX10_draw_59 : decode cX10_draw 59 = .ok (.aload_n 0, 1) := by decide +kernel
theorem dX10_draw_60 : decode cX10_draw 60 = .ok (.getfield 35, 3) := by decide +kernel
theorem dX10_draw_63 : decode cX10_draw 63 = .ok (.getfield 337, 3) := by decide +kernel
theorem dX10_draw_66 : decode cX10_draw 66 = .ok (.iload 5, 2) := by decide +kernel
theorem dX10_draw_68 : decode cX10_draw 68 = .ok (.iaload, 1) := by decide +kernel
theorem dX10_draw_69 : decode cX10_draw 69 = .ok (.iconst 1, 1) := by decide +kernel
theorem dX10_draw_70 : decode cX10_draw 70 = .ok (.iadd, 1) := by decide +kernel
theorem dX10_draw_71 : decode cX10_draw 71 = .ok (.istore 6, 2) := by decide +kernel
theorem dX10_draw_73 : decode cX10_draw 73 = .ok (.iload_n 3, 1) := by decide +kernel
theorem dX10_draw_74 : decode cX10_draw 74 = .ok (.bipush 100, 2) := by decide +kernel
theorem dX10_draw_76 : decode cX10_draw 76 = .ok (.irem, 1) := by decide +kernel
theorem dX10_draw_77 : decode cX10_draw 77 = .ok (.aload_n 0, 1) := by decide +kernel
theorem dX10_draw_78 : decode cX10_draw 78 = .ok (.getfield 22, 3) := by decide +kernel
theorem dX10_draw_81 : decode cX10_draw 81 = .ok (.getfield 373, 3) := by decide +kernel
theorem dX10_draw_84 : decode cX10_draw 84 = .ok (.if_icmp .ge 7, 3) := by decide +kernel
theorem dX10_draw_87 : decode cX10_draw 87 = .ok (.iconst 1, 1) := by decide +kernel
theorem dX10_draw_88 : decode cX10_draw 88 = .ok (.goto 4, 3) := by decide +kernel
theorem dX10_draw_91 : decode cX10_draw 91 = .ok (.iconst 0, 1) := by decide +kernel
theorem dX10_draw_92 : decode cX10_draw 92 = .ok (.istore 7, 2) := by decide +kernel
theorem dX10_draw_94 : decode cX10_draw 94 = .ok (.aload_n 0, 1) := by decide +kernel
theorem dX10_draw_95 : decode cX10_draw 95 = .ok (.getfield 35, 3) := by decide +kernel
theorem dX10_draw_98 : decode cX10_draw 98 = .ok (.getfield 337, 3) := by decide +kernel
theorem dX10_draw_101 : decode cX10_draw 101 = .ok (.iload 5, 2) := by decide +kernel
theorem dX10_draw_103 : decode cX10_draw 103 = .ok (.iload 7, 2) := by decide +kernel
theorem dX10_draw_105 : decode cX10_draw 105 = .ok (.ifCond .eq 21, 3) := by decide +kernel
theorem dX10_draw_108 : decode cX10_draw 108 = .ok (.iload 6, 2) := by decide +kernel
theorem dX10_draw_110 : decode cX10_draw 110 = .ok (.aload_n 0, 1) := by decide +kernel
theorem dX10_draw_111 : decode cX10_draw 111 = .ok (.getfield 22, 3) := by decide +kernel
theorem dX10_draw_114 : decode cX10_draw 114 = .ok (.getfield 349, 3) := by decide +kernel
theorem dX10_draw_117 : decode cX10_draw 117 = .ok (.iload 6, 2) := by decide +kernel
theorem dX10_draw_119 : decode cX10_draw 119 = .ok (.invokestatic 352, 3) := by decide +kernel
theorem dX10_draw_122 : decode cX10_draw 122 = .ok (.isub, 1) := by decide +kernel
theorem dX10_draw_123 : decode cX10_draw 123 = .ok (.goto 5, 3) := by decide +kernel
theorem dX10_draw_126 : decode cX10_draw 126 = .ok (.iload 6, 2) := by decide +kernel
theorem dX10_draw_128 : decode cX10_draw 128 = .ok (.iastore, 1) := by decide +kernel
theorem dX10_draw_129 : decode cX10_draw 129 = .ok (.iinc 5 1, 3) := by decide +kernel
theorem dX10_draw_132 : decode cX10_draw 132 = .ok (.goto (-111), 3) := by decide +kernel
theorem dX10_draw_135 : decode cX10_draw 135 = .ok (.iinc 4 1, 3) := by decide +kernel
theorem dX10_draw_138 : decode cX10_draw 138 = .ok (.goto (-126), 3) := by decide +kernel
theorem dX10_draw_141 : decode cX10_draw 141 = .ok (.return_, 1) := by decide +kernel
theorem dX10_acted_0 : decode cX10_acted 0 = .ok (.aload_n 0, 1) := by decide +kernel
theorem dX10_acted_1 : decode cX10_acted 1 = .ok (.getfield 65, 3) := by decide +kernel
theorem dX10_acted_4 : decode cX10_acted 4 = .ok (.iload_n 1, 1) := by decide +kernel
theorem dX10_acted_5 : decode cX10_acted 5 = .ok (.iload_n 2, 1) := by decide +kernel
theorem dX10_acted_6 : decode cX10_acted 6 = .ok (.iload_n 3, 1) := by decide +kernel
theorem dX10_acted_7 : decode cX10_acted 7 = .ok (.invokevirtual 422, 3) := by decide +kernel
theorem dX10_acted_10 : decode cX10_acted 10 = .ok (.aload_n 0, 1) := by decide +kernel
theorem dX10_acted_11 : decode cX10_acted 11 = .ok (.getfield 42, 3) := by decide +kernel
theorem dX10_acted_14 : decode cX10_acted 14 = .ok (.iconst 0, 1) := by decide +kernel
theorem dX10_acted_15 : decode cX10_acted 15 = .ok (.putfield 128, 3) := by decide +kernel
theorem dX10_acted_18 : decode cX10_acted 18 = .ok (.return_, 1) := by decide +kernel
theorem dX10_takeBack_0 : decode cX10_takeBack 0 = .ok (.aload_n 0, 1) := by decide +kernel
theorem dX10_takeBack_1 : decode cX10_takeBack 1 = .ok (.getfield 65, 3) := by decide +kernel
theorem dX10_takeBack_4 : decode cX10_takeBack 4 = .ok (.getfield 425, 3) := by decide +kernel
theorem dX10_takeBack_7 : decode cX10_takeBack 7 = .ok (.iload_n 1, 1) := by decide +kernel
theorem dX10_takeBack_8 : decode cX10_takeBack 8 = .ok (.iaload, 1) := by decide +kernel
theorem dX10_takeBack_9 : decode cX10_takeBack 9 = .ok (.istore_n 2, 1) := by decide +kernel
theorem dX10_takeBack_10 : decode cX10_takeBack 10 = .ok (.aload_n 0, 1) := by decide +kernel
theorem dX10_takeBack_11 : decode cX10_takeBack 11 = .ok (.getfield 65, 3) := by decide +kernel
theorem dX10_takeBack_14 : decode cX10_takeBack 14 = .ok (.getfield 428, 3) := by decide +kernel
theorem dX10_takeBack_17 : decode cX10_takeBack 17 = .ok (.iload_n 1, 1) := by decide +kernel
theorem dX10_takeBack_18 : decode cX10_takeBack 18 = .ok (.iaload, 1) := by decide +kernel
theorem dX10_takeBack_19 : decode cX10_takeBack 19 = .ok (.tableswitch 81 0 2 #[25, 36, 60], 25) := by decide +kernel
theorem dX10_takeBack_44 : decode cX10_takeBack 44 = .ok (.aload_n 0, 1) := by decide +kernel
theorem dX10_takeBack_45 : decode cX10_takeBack 45 = .ok (.getfield 26, 3) := by decide +kernel
theorem dX10_takeBack_48 : decode cX10_takeBack 48 = .ok (.iconst (-1), 1) := by decide +kernel
theorem dX10_takeBack_49 : decode cX10_takeBack 49 = .ok (.invokevirtual 342, 3) := by decide +kernel
theorem dX10_takeBack_52 : decode cX10_takeBack 52 = .ok (.goto 61, 3) := by decide +kernel
theorem dX10_takeBack_55 : decode cX10_takeBack 55 = .ok (.aload_n 0, 1) := by decide +kernel
theorem dX10_takeBack_56 : decode cX10_takeBack 56 = .ok (.getfield 26, 3) := by decide +kernel
theorem dX10_takeBack_59 : decode cX10_takeBack 59 = .ok (.getfield 160, 3) := by decide +kernel
theorem dX10_takeBack_62 : decode cX10_takeBack 62 = .ok (.iload_n 2, 1) := by decide +kernel
theorem dX10_takeBack_63 : decode cX10_takeBack 63 = .ok (.dup2, 1) := by decide +kernel
theorem dX10_takeBack_64 : decode cX10_takeBack 64 = .ok (.iaload, 1) := by decide +kernel
theorem dX10_takeBack_65 : decode cX10_takeBack 65 = .ok (.aload_n 0, 1) := by decide +kernel
theorem dX10_takeBack_66 : decode cX10_takeBack 66 = .ok (.getfield 65, 3) := by decide +kernel
theorem dX10_takeBack_69 : decode cX10_takeBack 69 = .ok (.getfield 431, 3) := by decide +kernel
theorem dX10_takeBack_72 : decode cX10_takeBack 72 = .ok (.iload_n 1, 1) := by decide +kernel
theorem dX10_takeBack_73 : decode cX10_takeBack 73 = .ok (.iaload, 1) := by decide +kernel
theorem dX10_takeBack_74 : decode cX10_takeBack 74 = .ok (.isub, 1) := by decide +kernel
theorem dX10_takeBack_75 : decode cX10_takeBack 75 = .ok (.iastore, 1) := by decide +kernel
theorem dX10_takeBack_76 : decode cX10_takeBack 76 = .ok (.goto 37, 3) := by decide +kernel
theorem dX10_takeBack_79 : decode cX10_takeBack 79 = .ok (.aload_n 0, 1) := by decide +kernel
theorem dX10_takeBack_80 : decode cX10_takeBack 80 = .ok (.getfield 26, 3) := by decide +kernel
theorem dX10_takeBack_83 : decode cX10_takeBack 83 = .ok (.getfield 138, 3) := by decide +kernel
theorem dX10_takeBack_86 : decode cX10_takeBack 86 = .ok (.iload_n 2, 1) := by decide +kernel
theorem dX10_takeBack_87 : decode cX10_takeBack 87 = .ok (.aload_n 0, 1) := by decide +kernel
theorem dX10_takeBack_88 : decode cX10_takeBack 88 = .ok (.getfield 65, 3) := by decide +kernel
theorem dX10_takeBack_91 : decode cX10_takeBack 91 = .ok (.getfield 431, 3) := by decide +kernel
theorem dX10_takeBack_94 : decode cX10_takeBack 94 = .ok (.iload_n 1, 1) := by decide +kernel
theorem dX10_takeBack_95 : decode cX10_takeBack 95 = .ok (.iaload, 1) := by decide +kernel
theorem dX10_takeBack_96 : decode cX10_takeBack 96 = .ok (.iastore, 1) := by decide +kernel
theorem dX10_takeBack_97 : decode cX10_takeBack 97 = .ok (.goto 16, 3) := by decide +kernel
theorem dX10_takeBack_100 : decode cX10_takeBack 100 = .ok (.aload_n 0, 1) := by decide +kernel
theorem dX10_takeBack_101 : decode cX10_takeBack 101 = .ok (.getfield 26, 3) := by decide +kernel
theorem dX10_takeBack_104 : decode cX10_takeBack 104 = .ok (.dup, 1) := by decide +kernel
theorem dX10_takeBack_105 : decode cX10_takeBack 105 = .ok (.getfield 282, 3) := by decide +kernel
theorem dX10_takeBack_108 : decode cX10_takeBack 108 = .ok (.iconst 1, 1) := by decide +kernel
theorem dX10_takeBack_109 : decode cX10_takeBack 109 = .ok (.isub, 1) := by decide +kernel
theorem dX10_takeBack_110 : decode cX10_takeBack 110 = .ok (.putfield 282, 3) := by decide +kernel
theorem dX10_takeBack_113 : decode cX10_takeBack 113 = .ok (.return_, 1) := by decide +kernel
theorem dX11_init_0 : decode cX11_init 0 = .ok (.aload_n 0, 1) := by decide +kernel
theorem dX11_init_1 : decode cX11_init 1 = .ok (.invokespecial 3, 3) := by decide +kernel
theorem dX11_init_4 : decode cX11_init 4 = .ok (.aload_n 0, 1) := by decide +kernel
theorem dX11_init_5 : decode cX11_init 5 = .ok (.iconst 5, 1) := by decide +kernel
theorem dX11_init_6 : decode cX11_init 6 = .ok (.newarray .int, 2) := by decide +kernel
theorem dX11_init_8 : decode cX11_init 8 = .ok (.putfield 9, 3) := by decide +kernel
theorem dX11_init_11 : decode cX11_init 11 = .ok (.aload_n 0, 1) := by decide +kernel
theorem dX11_init_12 : decode cX11_init 12 = .ok (.bipush 10, 2) := by decide +kernel
theorem dX11_init_14 : decode cX11_init 14 = .ok (.newarray .int, 2) := by decide +kernel
theorem dX11_init_16 : decode cX11_init 16 = .ok (.putfield 15, 3) := by decide +kernel
theorem dX11_init_19 : decode cX11_init 19 = .ok (.aload_n 0, 1) := by decide +kernel
theorem dX11_init_20 : decode cX11_init 20 = .ok (.bipush 10, 2) := by decide +kernel
theorem dX11_init_22 : decode cX11_init 22 = .ok (.newarray .int, 2) := by decide +kernel
theorem dX11_init_24 : decode cX11_init 24 = .ok (.putfield 18, 3) := by decide +kernel
theorem dX11_init_27 : decode cX11_init 27 = .ok (.aload_n 0, 1) := by decide +kernel
theorem dX11_init_28 : decode cX11_init 28 = .ok (.bipush 10, 2) := by decide +kernel
theorem dX11_init_30 : decode cX11_init 30 = .ok (.newarray .int, 2) := by decide +kernel
theorem dX11_init_32 : decode cX11_init 32 = .ok (.putfield 21, 3) := by decide +kernel
theorem dX11_init_35 : decode cX11_init 35 = .ok (.aload_n 0, 1) := by decide +kernel
theorem dX11_init_36 : decode cX11_init 36 = .ok (.bipush 10, 2) := by decide +kernel
theorem dX11_init_38 : decode cX11_init 38 = .ok (.newarray .int, 2) := by decide +kernel
theorem dX11_init_40 : decode cX11_init 40 = .ok (.putfield 24, 3) := by decide +kernel
theorem dX11_init_43 : decode cX11_init 43 = .ok (.aload_n 0, 1) := by decide +kernel
theorem dX11_init_44 : decode cX11_init 44 = .ok (.iconst 4, 1) := by decide +kernel
theorem dX11_init_45 : decode cX11_init 45 = .ok (.newarray .int, 2) := by decide +kernel
theorem dX11_init_47 : decode cX11_init 47 = .ok (.putfield 27, 3) := by decide +kernel
theorem dX11_init_50 : decode cX11_init 50 = .ok (.aload_n 0, 1) := by decide +kernel
theorem dX11_init_51 : decode cX11_init 51 = .ok (.iconst 4, 1) := by decide +kernel
theorem dX11_init_52 : decode cX11_init 52 = .ok (.newarray .int, 2) := by decide +kernel
theorem dX11_init_54 : decode cX11_init 54 = .ok (.putfield 30, 3) := by decide +kernel
theorem dX11_init_57 : decode cX11_init 57 = .ok (.aload_n 0, 1) := by decide +kernel
theorem dX11_init_58 : decode cX11_init 58 = .ok (.bipush 6, 2) := by decide +kernel
theorem dX11_init_60 : decode cX11_init 60 = .ok (.newarray .int, 2) := by decide +kernel
theorem dX11_init_62 : decode cX11_init 62 = .ok (.putfield 33, 3) := by decide +kernel
theorem dX11_init_65 : decode cX11_init 65 = .ok (.aload_n 0, 1) := by decide +kernel
theorem dX11_init_66 : decode cX11_init 66 = .ok (.iconst 5, 1) := by decide +kernel
theorem dX11_init_67 : decode cX11_init 67 = .ok (.newarray .long, 2) := by decide +kernel
theorem dX11_init_69 : decode cX11_init 69 = .ok (.putfield 36, 3) := by decide +kernel
theorem dX11_init_72 : decode cX11_init 72 = .ok (.return_, 1) := by decide +kernel
theorem dX11_find_0 : decode cX11_find 0 = .ok (.iconst 0, 1) := by decide +kernel
theorem dX11_find_1 : decode cX11_find 1 = .ok (.istore_n 3, 1) := by decide +kernel
theorem dX11_find_2 : decode cX11_find 2 = .ok (.iload_n 3, 1) := by decide +kernel
theorem dX11_find_3 : decode cX11_find 3 = .ok (.aload_n 0, 1) := by decide +kernel
theorem dX11_find_4 : decode cX11_find 4 = .ok (.getfield 40, 3) := by decide +kernel
theorem dX11_find_7 : decode cX11_find 7 = .ok (.if_icmp .ge 22, 3) := by decide +kernel
theorem dX11_find_10 : decode cX11_find 10 = .ok (.aload_n 0, 1) := by decide +kernel
theorem dX11_find_11 : decode cX11_find 11 = .ok (.getfield 36, 3) := by decide +kernel
theorem dX11_find_14 : decode cX11_find 14 = .ok (.iload_n 3, 1) := by decide +kernel
theorem dX11_find_15 : decode cX11_find 15 = .ok (.laload, 1) := by decide +kernel
theorem dX11_find_16 : decode cX11_find 16 = .ok (.lload_n 1, 1) := by decide +kernel
theorem dX11_find_17 : decode cX11_find 17 = .ok (.lcmp, 1) := by decide +kernel
theorem dX11_find_18 : decode cX11_find 18 = .ok (.ifCond .ne 5, 3) := by decide +kernel
theorem dX11_find_21 : decode cX11_find 21 = .ok (.iload_n 3, 1) := by decide +kernel
theorem dX11_find_22 : decode cX11_find 22 = .ok (.ireturn, 1) := by decide +kernel
theorem dX11_find_23 : decode cX11_find 23 = .ok (.iinc 3 1, 3) := by decide +kernel
theorem dX11_find_26 : decode cX11_find 26 = .ok (.goto (-24), 3) := by decide +kernel
theorem dX11_find_29 : decode cX11_find 29 = .ok (.iconst (-1), 1) := by decide +kernel
theorem dX11_find_30 : decode cX11_find 30 = .ok (.ireturn, 1) := by decide +kernel
theorem dX11_isTaken_0 : decode cX11_isTaken 0 = .ok (.iconst 0, 1) := by decide +kernel
theorem dX11_isTaken_1 : decode cX11_isTaken 1 = .ok (.istore_n 2, 1) := by decide +kernel
theorem dX11_isTaken_2 : decode cX11_isTaken 2 = .ok (.iload_n 2, 1) := by decide +kernel
theorem dX11_isTaken_3 : decode cX11_isTaken 3 = .ok (.aload_n 0, 1) := by decide +kernel
theorem dX11_isTaken_4 : decode cX11_isTaken 4 = .ok (.getfield 40, 3) := by decide +kernel
theorem dX11_isTaken_7 : decode cX11_isTaken 7 = .ok (.if_icmp .ge 21, 3) := by decide +kernel
theorem dX11_isTaken_10 : decode cX11_isTaken 10 = .ok (.aload_n 0, 1) := by decide +kernel
theorem dX11_isTaken_11 : decode cX11_isTaken 11 = .ok (.getfield 9, 3) := by decide +kernel
theorem dX11_isTaken_14 : decode cX11_isTaken 14 = .ok (.iload_n 2, 1) := by decide +kernel
theorem dX11_isTaken_15 : decode cX11_isTaken 15 = .ok (.iaload, 1) := by decide +kernel
theorem dX11_isTaken_16 : decode cX11_isTaken 16 = .ok (.iload_n 1, 1) := by decide +kernel
theorem dX11_isTaken_17 : decode cX11_isTaken 17 = .ok (.if_icmp .ne 5, 3) := by decide +kernel
theorem dX11_isTaken_20 : decode cX11_isTaken 20 = .ok (.iconst 1, 1) := by decide +kernel
theorem dX11_isTaken_21 : decode cX11_isTaken 21 = .ok (.ireturn, 1) := by decide +kernel
theorem dX11_isTaken_22 : decode cX11_isTaken 22 = .ok (.iinc 2 1, 3) := by decide +kernel
theorem dX11_isTaken_25 : decode cX11_isTaken 25 = .ok (.goto (-23), 3) := by decide +kernel
theorem dX11_isTaken_28 : decode cX11_isTaken 28 = .ok (.iconst 0, 1) := by decide +kernel
theorem dX11_isTaken_29 : decode cX11_isTaken 29 = .ok (.ireturn, 1) := by decide +kernel
theorem dX11_pairOf_0 : decode cX11_pairOf 0 = .ok (.iconst 0, 1) := by decide +kernel
theorem dX11_pairOf_1 : decode cX11_pairOf 1 = .ok (.istore_n 3, 1) := by decide +kernel
theorem dX11_pairOf_2 : decode cX11_pairOf 2 = .ok (.iload_n 3, 1) := by decide +kernel
theorem dX11_pairOf_3 : decode cX11_pairOf 3 = .ok (.aload_n 0, 1) := by decide +kernel
theorem dX11_pairOf_4 : decode cX11_pairOf 4 = .ok (.getfield 44, 3) := by decide +kernel
theorem dX11_pairOf_7 : decode cX11_pairOf 7 = .ok (.if_icmp .ge 51, 3) := by decide +kernel
theorem dX11_pairOf_10 : decode cX11_pairOf 10 = .ok (.aload_n 0, 1) := by decide +kernel
theorem dX11_pairOf_11 : decode cX11_pairOf 11 = .ok (.getfield 15, 3) := by decide +kernel
theorem dX11_pairOf_14 : decode cX11_pairOf 14 = .ok (.iload_n 3, 1) := by decide +kernel
theorem dX11_pairOf_15 : decode cX11_pairOf 15 = .ok (.iaload, 1) := by decide +kernel
theorem dX11_pairOf_16 : decode cX11_pairOf 16 = .ok (.iload_n 1, 1) := by decide +kernel
theorem dX11_pairOf_17 : decode cX11_pairOf 17 = .ok (.if_icmp .ne 13, 3) := by decide +kernel
theorem dX11_pairOf_20 : decode cX11_pairOf 20 = .ok (.aload_n 0, 1) := by decide +kernel
theorem dX11_pairOf_21 : decode cX11_pairOf 21 = .ok (.getfield 18, 3) := by decide +kernel
theorem dX11_pairOf_24 : decode cX11_pairOf 24 = .ok (.iload_n 3, 1) := by decide +kernel
theorem dX11_pairOf_25 : decode cX11_pairOf 25 = .ok (.iaload, 1) := by decide +kernel
theorem dX11_pairOf_26 : decode cX11_pairOf 26 = .ok (.iload_n 2, 1) := by decide +kernel
theorem dX11_pairOf_27 : decode cX11_pairOf 27 = .ok (.if_icmp .eq 23, 3) := by decide +kernel
theorem dX11_pairOf_30 : decode cX11_pairOf 30 = .ok (.aload_n 0, 1) := by decide +kernel
theorem dX11_pairOf_31 : decode cX11_pairOf 31 = .ok (.getfield 15, 3) := by decide +kernel
theorem dX11_pairOf_34 : decode cX11_pairOf 34 = .ok (.iload_n 3, 1) := by decide +kernel
theorem dX11_pairOf_35 : decode cX11_pairOf 35 = .ok (.iaload, 1) := by decide +kernel
theorem dX11_pairOf_36 : decode cX11_pairOf 36 = .ok (.iload_n 2, 1) := by decide +kernel
theorem dX11_pairOf_37 : decode cX11_pairOf 37 = .ok (.if_icmp .ne 15, 3) := by decide +kernel
theorem dX11_pairOf_40 : decode cX11_pairOf 40 = .ok (.aload_n 0, 1) := by decide +kernel
theorem dX11_pairOf_41 : decode cX11_pairOf 41 = .ok (.getfield 18, 3) := by decide +kernel
theorem dX11_pairOf_44 : decode cX11_pairOf 44 = .ok (.iload_n 3, 1) := by decide +kernel
theorem dX11_pairOf_45 : decode cX11_pairOf 45 = .ok (.iaload, 1) := by decide +kernel
theorem dX11_pairOf_46 : decode cX11_pairOf 46 = .ok (.iload_n 1, 1) := by decide +kernel
theorem dX11_pairOf_47 : decode cX11_pairOf 47 = .ok (.if_icmp .ne 5, 3) := by decide +kernel
theorem dX11_pairOf_50 : decode cX11_pairOf 50 = .ok (.iload_n 3, 1) := by decide +kernel
theorem dX11_pairOf_51 : decode cX11_pairOf 51 = .ok (.ireturn, 1) := by decide +kernel
theorem dX11_pairOf_52 : decode cX11_pairOf 52 = .ok (.iinc 3 1, 3) := by decide +kernel
theorem dX11_pairOf_55 : decode cX11_pairOf 55 = .ok (.goto (-53), 3) := by decide +kernel
theorem dX11_pairOf_58 : decode cX11_pairOf 58 = .ok (.iconst (-1), 1) := by decide +kernel
theorem dX11_pairOf_59 : decode cX11_pairOf 59 = .ok (.ireturn, 1) := by decide +kernel
theorem dX11_isUnsure_0 : decode cX11_isUnsure 0 = .ok (.iconst 0, 1) := by decide +kernel
theorem dX11_isUnsure_1 : decode cX11_isUnsure 1 = .ok (.istore_n 2, 1) := by decide +kernel
theorem dX11_isUnsure_2 : decode cX11_isUnsure 2 = .ok (.iload_n 2, 1) := by decide +kernel
theorem dX11_isUnsure_3 : decode cX11_isUnsure 3 = .ok (.aload_n 0, 1) := by decide +kernel
theorem dX11_isUnsure_4 : decode cX11_isUnsure 4 = .ok (.getfield 47, 3) := by decide +kernel
theorem dX11_isUnsure_7 : decode cX11_isUnsure 7 = .ok (.if_icmp .ge 21, 3) := by decide +kernel
theorem dX11_isUnsure_10 : decode cX11_isUnsure 10 = .ok (.aload_n 0, 1) := by decide +kernel
theorem dX11_isUnsure_11 : decode cX11_isUnsure 11 = .ok (.getfield 27, 3) := by decide +kernel
theorem dX11_isUnsure_14 : decode cX11_isUnsure 14 = .ok (.iload_n 2, 1) := by decide +kernel
theorem dX11_isUnsure_15 : decode cX11_isUnsure 15 = .ok (.iaload, 1) := by decide +kernel
theorem dX11_isUnsure_16 : decode cX11_isUnsure 16 = .ok (.iload_n 1, 1) := by decide +kernel
theorem dX11_isUnsure_17 : decode cX11_isUnsure 17 = .ok (.if_icmp .ne 5, 3) := by decide +kernel
theorem dX11_isUnsure_20 : decode cX11_isUnsure 20 = .ok (.iconst 1, 1) := by decide +kernel
theorem dX11_isUnsure_21 : decode cX11_isUnsure 21 = .ok (.ireturn, 1) := by decide +kernel
theorem dX11_isUnsure_22 : decode cX11_isUnsure 22 = .ok (.iinc 2 1, 3) := by decide +kernel
theorem dX11_isUnsure_25 : decode cX11_isUnsure 25 = .ok (.goto (-23), 3) := by decide +kernel
theorem dX11_isUnsure_28 : decode cX11_isUnsure 28 = .ok (.iconst 0, 1) := by decide +kernel
theorem dX11_isUnsure_29 : decode cX11_isUnsure 29 = .ok (.ireturn, 1) := by decide +kernel
theorem dX11_isTried_0 : decode cX11_isTried 0 = .ok (.iconst 0, 1) := by decide +kernel
theorem dX11_isTried_1 : decode cX11_isTried 1 = .ok (.istore_n 2, 1) := by decide +kernel
theorem dX11_isTried_2 : decode cX11_isTried 2 = .ok (.iload_n 2, 1) := by decide +kernel
theorem dX11_isTried_3 : decode cX11_isTried 3 = .ok (.aload_n 0, 1) := by decide +kernel
theorem dX11_isTried_4 : decode cX11_isTried 4 = .ok (.getfield 50, 3) := by decide +kernel
theorem dX11_isTried_7 : decode cX11_isTried 7 = .ok (.if_icmp .ge 21, 3) := by decide +kernel
theorem dX11_isTried_10 : decode cX11_isTried 10 = .ok (.aload_n 0, 1) := by decide +kernel
theorem dX11_isTried_11 : decode cX11_isTried 11 = .ok (.getfield 33, 3) := by decide +kernel
theorem dX11_isTried_14 : decode cX11_isTried 14 = .ok (.iload_n 2, 1) := by decide +kernel
theorem dX11_isTried_15 : decode cX11_isTried 15 = .ok (.iaload, 1) := by decide +kernel
theorem dX11_isTried_16 : decode cX11_isTried 16 = .ok (.iload_n 1, 1) := by decide +kernel
theorem dX11_isTried_17 : decode cX11_isTried 17 = .ok (.if_icmp .ne 5, 3) := by decide +kernel
theorem dX11_isTried_20 : decode cX11_isTried 20 = .ok (.iconst 1, 1) := by decide +kernel
theorem dX11_isTried_21 : decode cX11_isTried 21 = .ok (.ireturn, 1) := by decide +kernel
theorem dX11_isTried_22 : decode cX11_isTried 22 = .ok (.iinc 2 1, 3) := by decide +kernel
theorem dX11_isTried_25 : decode cX11_isTried 25 = .ok (.goto (-23), 3) := by decide +kernel
theorem dX11_isTried_28 : decode cX11_isTried 28 = .ok (.iconst 0, 1) := by decide +kernel
theorem dX11_isTried_29 : decode cX11_isTried 29 = .ok (.ireturn, 1) := by decide +kernel
theorem dX12_init_0 : decode cX12_init 0 = .ok (.aload_n 0, 1) := by decide +kernel
theorem dX12_init_1 : decode cX12_init 1 = .ok (.invokespecial 3, 3) := by decide +kernel
theorem dX12_init_4 : decode cX12_init 4 = .ok (.aload_n 0, 1) := by decide +kernel
theorem dX12_init_5 : decode cX12_init 5 = .ok (.iconst (-1), 1) := by decide +kernel
theorem dX12_init_6 : decode cX12_init 6 = .ok (.putfield 9, 3) := by decide +kernel
theorem dX12_init_9 : decode cX12_init 9 = .ok (.aload_n 0, 1) := by decide +kernel
theorem dX12_init_10 : decode cX12_init 10 = .ok (.sipush 800, 3) := by decide +kernel
theorem dX12_init_13 : decode cX12_init 13 = .ok (.newarray .byte, 2) := by decide +kernel
theorem dX12_init_15 : decode cX12_init 15 = .ok (.putfield 13, 3) := by decide +kernel
theorem dX12_init_18 : decode cX12_init 18 = .ok (.aload_n 0, 1) := by decide +kernel
theorem dX12_init_19 : decode cX12_init 19 = .ok (.bipush 58, 2) := by decide +kernel
theorem dX12_init_21 : decode cX12_init 21 = .ok (.newarray .int, 2) := by decide +kernel
theorem dX12_init_23 : decode cX12_init 23 = .ok (.putfield 17, 3) := by decide +kernel
theorem dX12_init_26 : decode cX12_init 26 = .ok (.aload_n 0, 1) := by decide +kernel
theorem dX12_init_27 : decode cX12_init 27 = .ok (.bipush 58, 2) := by decide +kernel
theorem dX12_init_29 : decode cX12_init 29 = .ok (.newarray .int, 2) := by decide +kernel
theorem dX12_init_31 : decode cX12_init 31 = .ok (.putfield 21, 3) := by decide +kernel
theorem dX12_init_34 : decode cX12_init 34 = .ok (.aload_n 0, 1) := by decide +kernel
theorem dX12_init_35 : decode cX12_init 35 = .ok (.sipush 928, 3) := by decide +kernel
theorem dX12_init_38 : decode cX12_init 38 = .ok (.newarray .int, 2) := by decide +kernel
theorem dX12_init_40 : decode cX12_init 40 = .ok (.putfield 24, 3) := by decide +kernel
theorem dX12_init_43 : decode cX12_init 43 = .ok (.aload_n 0, 1) := by decide +kernel
theorem dX12_init_44 : decode cX12_init 44 = .ok (.sipush 174, 3) := by decide +kernel
theorem dX12_init_47 : decode cX12_init 47 = .ok (.newarray .int, 2) := by decide +kernel
theorem dX12_init_49 : decode cX12_init 49 = .ok (.putfield 27, 3) := by decide +kernel
theorem dX12_init_52 : decode cX12_init 52 = .ok (.aload_n 0, 1) := by decide +kernel
theorem dX12_init_53 : decode cX12_init 53 = .ok (.bipush 10, 2) := by decide +kernel
theorem dX12_init_55 : decode cX12_init 55 = .ok (.newarray .int, 2) := by decide +kernel
theorem dX12_init_57 : decode cX12_init 57 = .ok (.putfield 30, 3) := by decide +kernel
theorem dX12_init_60 : decode cX12_init 60 = .ok (.aload_n 0, 1) := by decide +kernel
theorem dX12_init_61 : decode cX12_init 61 = .ok (.iconst 5, 1) := by decide +kernel
theorem dX12_init_62 : decode cX12_init 62 = .ok (.newarray .int, 2) := by decide +kernel
theorem dX12_init_64 : decode cX12_init 64 = .ok (.putfield 33, 3) := by decide +kernel
theorem dX12_init_67 : decode cX12_init 67 = .ok (.aload_n 0, 1) := by decide +kernel
theorem dX12_init_68 : decode cX12_init 68 = .ok (.iconst 4, 1) := by decide +kernel
theorem dX12_init_69 : decode cX12_init 69 = .ok (.newarray .int, 2) := by decide +kernel
theorem dX12_init_71 : decode cX12_init 71 = .ok (.putfield 36, 3) := by decide +kernel
theorem dX12_init_74 : decode cX12_init 74 = .ok (.return_, 1) := by decide +kernel
theorem dX12_thrown_0 : decode cX12_thrown 0 = .ok (.aload_n 0, 1) := by decide +kernel
theorem dX12_thrown_1 : decode cX12_thrown 1 = .ok (.getfield 39, 3) := by decide +kernel
theorem dX12_thrown_4 : decode cX12_thrown 4 = .ok (.ireturn, 1) := by decide +kernel
theorem dX12_refused_0 : decode cX12_refused 0 = .ok (.aload_n 0, 1) := by decide +kernel
theorem dX12_refused_1 : decode cX12_refused 1 = .ok (.iload_n 1, 1) := by decide +kernel
theorem dX12_refused_2 : decode cX12_refused 2 = .ok (.putfield 42, 3) := by decide +kernel
theorem dX12_refused_5 : decode cX12_refused 5 = .ok (.aload_n 0, 1) := by decide +kernel
theorem dX12_refused_6 : decode cX12_refused 6 = .ok (.iconst (-1), 1) := by decide +kernel
theorem dX12_refused_7 : decode cX12_refused 7 = .ok (.putfield 9, 3) := by decide +kernel
theorem dX12_refused_10 : decode cX12_refused 10 = .ok (.iconst (-1), 1) := by decide +kernel
theorem dX12_refused_11 : decode cX12_refused 11 = .ok (.ireturn, 1) := by decide +kernel
theorem dX12_lost_0 : decode cX12_lost 0 = .ok (.aload_n 0, 1) := by decide +kernel
theorem dX12_lost_1 : decode cX12_lost 1 = .ok (.iload_n 1, 1) := by decide +kernel
theorem dX12_lost_2 : decode cX12_lost 2 = .ok (.invokevirtual 45, 3) := by decide +kernel
theorem dX12_lost_5 : decode cX12_lost 5 = .ok (.pop, 1) := by decide +kernel
theorem dX12_lost_6 : decode cX12_lost 6 = .ok (.bipush (-100), 2) := by decide +kernel
theorem dX12_lost_8 : decode cX12_lost 8 = .ok (.ireturn, 1) := by decide +kernel
theorem dX12_denied_0 : decode cX12_denied 0 = .ok (.aload_n 0, 1) := by decide +kernel
theorem dX12_denied_1 : decode cX12_denied 1 = .ok (.iload_n 1, 1) := by decide +kernel
theorem dX12_denied_2 : decode cX12_denied 2 = .ok (.invokevirtual 45, 3) := by decide +kernel
theorem dX12_denied_5 : decode cX12_denied 5 = .ok (.pop, 1) := by decide +kernel
theorem dX12_denied_6 : decode cX12_denied 6 = .ok (.iconst 0, 1) := by decide +kernel
theorem dX12_denied_7 : decode cX12_denied 7 = .ok (.ireturn, 1) := by decide +kernel
theorem dX12_good_0 : decode cX12_good 0 = .ok (.aload_n 0, 1) := by decide +kernel
theorem dX12_good_1 : decode cX12_good 1 = .ok (.iconst 0, 1) := by decide +kernel
theorem dX12_good_2 : decode cX12_good 2 = .ok (.putfield 42, 3) := by decide +kernel
theorem dX12_good_5 : decode cX12_good 5 = .ok (.aload_n 0, 1) := by decide +kernel
theorem dX12_good_6 : decode cX12_good 6 = .ok (.iconst (-1), 1) := by decide +kernel
theorem dX12_good_7 : decode cX12_good 7 = .ok (.putfield 9, 3) := by decide +kernel
theorem dX12_good_10 : decode cX12_good 10 = .ok (.iload_n 1, 1) := by decide +kernel
theorem dX12_good_11 : decode cX12_good 11 = .ok (.ireturn, 1) := by decide +kernel
theorem dX12_granted_0 : decode cX12_granted 0 = .ok (.aload_n 0, 1) := by decide +kernel
theorem dX12_granted_1 : decode cX12_granted 1 = .ok (.iconst 0, 1) := by decide +kernel
theorem dX12_granted_2 : decode cX12_granted 2 = .ok (.invokevirtual 49, 3) := by decide +kernel
theorem dX12_granted_5 : decode cX12_granted 5 = .ok (.pop, 1) := by decide +kernel
theorem dX12_granted_6 : decode cX12_granted 6 = .ok (.iconst 1, 1) := by decide +kernel
theorem dX12_granted_7 : decode cX12_granted 7 = .ok (.ireturn, 1) := by decide +kernel
theorem dX12_in_0 : decode cX12_in 0 = .ok (.iload_n 0, 1) := by decide +kernel
theorem dX12_in_1 : decode cX12_in 1 = .ok (.iload_n 1, 1) := by decide +kernel
theorem dX12_in_2 : decode cX12_in 2 = .ok (.if_icmp .lt 12, 3) := by decide +kernel
theorem dX12_in_5 : decode cX12_in 5 = .ok (.iload_n 0, 1) := by decide +kernel
theorem dX12_in_6 : decode cX12_in 6 = .ok (.iload_n 2, 1) := by decide +kernel
theorem dX12_in_7 : decode cX12_in 7 = .ok (.if_icmp .gt 7, 3) := by decide +kernel
theorem dX12_in_10 : decode cX12_in 10 = .ok (.iconst 1, 1) := by decide +kernel
theorem dX12_in_11 : decode cX12_in 11 = .ok (.goto 4, 3) := by decide +kernel
theorem dX12_in_14 : decode cX12_in 14 = .ok (.iconst 0, 1) := by decide +kernel
theorem dX12_in_15 : decode cX12_in 15 = .ok (.ireturn, 1) := by decide +kernel
theorem dX12_bit_0 : decode cX12_bit 0 = .ok (.iload_n 0, 1) := by decide +kernel
theorem dX12_bit_1 : decode cX12_bit 1 = .ok (.iload_n 1, 1) := by decide +kernel
theorem dX12_bit_2 : decode cX12_bit 2 = .ok (.ishr, 1) := by decide +kernel
theorem dX12_bit_3 : decode cX12_bit 3 = .ok (.iconst 1, 1) := by decide +kernel
theorem dX12_bit_4 : decode cX12_bit 4 = .ok (.iand, 1) := by decide +kernel
theorem dX12_bit_5 : decode cX12_bit 5 = .ok (.iconst 1, 1) := by decide +kernel
theorem dX12_bit_6 : decode cX12_bit 6 = .ok (.if_icmp .ne 7, 3) := by decide +kernel
theorem dX12_bit_9 : decode cX12_bit 9 = .ok (.iconst 1, 1) := by decide +kernel
theorem dX12_bit_10 : decode cX12_bit 10 = .ok (.goto 4, 3) := by decide +kernel
theorem dX12_bit_13 : decode cX12_bit 13 = .ok (.iconst 0, 1) := by decide +kernel
theorem dX12_bit_14 : decode cX12_bit 14 = .ok (.ireturn, 1) := by decide +kernel
theorem dX12_bits_0 : decode cX12_bits 0 = .ok (.iconst 0, 1) := by decide +kernel
theorem dX12_bits_1 : decode cX12_bits 1 = .ok (.istore_n 1, 1) := by decide +kernel
theorem dX12_bits_2 : decode cX12_bits 2 = .ok (.iload_n 0, 1) := by decide +kernel
theorem dX12_bits_3 : decode cX12_bits 3 = .ok (.istore_n 2, 1) := by decide +kernel
theorem dX12_bits_4 : decode cX12_bits 4 = .ok (.iload_n 2, 1) := by decide +kernel
theorem dX12_bits_5 : decode cX12_bits 5 = .ok (.ifCond .eq 15, 3) := by decide +kernel
theorem dX12_bits_8 : decode cX12_bits 8 = .ok (.iinc 1 1, 3) := by decide +kernel
theorem dX12_bits_11 : decode cX12_bits 11 = .ok (.iload_n 2, 1) := by decide +kernel
theorem dX12_bits_12 : decode cX12_bits 12 = .ok (.iload_n 2, 1) := by decide +kernel
theorem dX12_bits_13 : decode cX12_bits 13 = .ok (.iconst 1, 1) := by decide +kernel
theorem dX12_bits_14 : decode cX12_bits 14 = .ok (.isub, 1) := by decide +kernel
theorem dX12_bits_15 : decode cX12_bits 15 = .ok (.iand, 1) := by decide +kernel
theorem dX12_bits_16 : decode cX12_bits 16 = .ok (.istore_n 2, 1) := by decide +kernel
theorem dX12_bits_17 : decode cX12_bits 17 = .ok (.goto (-13), 3) := by decide +kernel
theorem dX12_bits_20 : decode cX12_bits 20 = .ok (.iload_n 1, 1) := by decide +kernel
theorem dX12_bits_21 : decode cX12_bits 21 = .ok (.ireturn, 1) := by decide +kernel
theorem dX12_common_0 : decode cX12_common 0 = .ok (.lload_n 0, 1) := by decide +kernel
theorem dX12_common_1 : decode cX12_common 1 = .ok (.lstore 4, 2) := by decide +kernel
theorem dX12_common_3 : decode cX12_common 3 = .ok (.lload_n 2, 1) := by decide +kernel
theorem dX12_common_4 : decode cX12_common 4 = .ok (.lstore 6, 2) := by decide +kernel
theorem dX12_common_6 : decode cX12_common 6 = .ok (.lload 6, 2) := by decide +kernel
theorem dX12_common_8 : decode cX12_common 8 = .ok (.lconst 0, 1) := by decide +kernel
theorem dX12_common_9 : decode cX12_common 9 = .ok (.lcmp, 1) := by decide +kernel
theorem dX12_common_10 : decode cX12_common 10 = .ok (.ifCond .eq 21, 3) := by decide +kernel
theorem dX12_common_13 : decode cX12_common 13 = .ok (.lload 4, 2) := by decide +kernel
theorem dX12_common_15 : decode cX12_common 15 = .ok (.lload 6, 2) := by decide +kernel
theorem dX12_common_17 : decode cX12_common 17 = .ok (.lrem, 1) := by decide +kernel
theorem dX12_common_18 : decode cX12_common 18 = .ok (.lstore 8, 2) := by decide +kernel
theorem dX12_common_20 : decode cX12_common 20 = .ok (.lload 6, 2) := by decide +kernel
theorem dX12_common_22 : decode cX12_common 22 = .ok (.lstore 4, 2) := by decide +kernel
theorem dX12_common_24 : decode cX12_common 24 = .ok (.lload 8, 2) := by decide +kernel
theorem dX12_common_26 : decode cX12_common 26 = .ok (.lstore 6, 2) := by decide +kernel
theorem dX12_common_28 : decode cX12_common 28 = .ok (.goto (-22), 3) := by decide +kernel
theorem dX12_common_31 : decode cX12_common 31 = .ok (.lload 4, 2) := by decide +kernel
theorem dX12_common_33 : decode cX12_common 33 = .ok (.lreturn, 1) := by decide +kernel
theorem dX12_fraction_0 : decode cX12_fraction 0 = .ok (.aload_n 0, 1) := by decide +kernel
theorem dX12_fraction_1 : decode cX12_fraction 1 = .ok (.iconst 0, 1) := by decide +kernel
theorem dX12_fraction_2 : decode cX12_fraction 2 = .ok (.invokevirtual 49, 3) := by decide +kernel
theorem dX12_fraction_5 : decode cX12_fraction 5 = .ok (.pop, 1) := by decide +kernel
theorem dX12_fraction_6 : decode cX12_fraction 6 = .ok (.iload 5, 2) := by decide +kernel
theorem dX12_fraction_8 : decode cX12_fraction 8 = .ok (.ifCond .eq 7, 3) := by decide +kernel
theorem dX12_fraction_11 : decode cX12_fraction 11 = .ok (.lload_n 3, 1) := by decide +kernel
theorem dX12_fraction_12 : decode cX12_fraction 12 = .ok (.goto 4, 3) := by decide +kernel
theorem dX12_fraction_15 : decode cX12_fraction 15 = .ok (.lload_n 1, 1) := by decide +kernel
theorem dX12_fraction_16 : decode cX12_fraction 16 = .ok (.lload_n 1, 1) := by decide +kernel
theorem dX12_fraction_17 : decode cX12_fraction 17 = .ok (.lload_n 3, 1) := by decide +kernel
theorem dX12_fraction_18 : decode cX12_fraction 18 = .ok (.invokestatic 52, 3) := by decide +kernel
theorem dX12_fraction_21 : decode cX12_fraction 21 = .ok (.ldiv, 1) := by decide +kernel
theorem dX12_fraction_22 : decode cX12_fraction 22 = .ok (.lreturn, 1) := by decide +kernel
theorem dX12_byteAt_0 : decode cX12_byteAt 0 = .ok (.iload_n 1, 1) := by decide +kernel
theorem dX12_byteAt_1 : decode cX12_byteAt 1 = .ok (.aload_n 0, 1) := by decide +kernel
theorem dX12_byteAt_2 : decode cX12_byteAt 2 = .ok (.getfield 56, 3) := by decide +kernel
theorem dX12_byteAt_5 : decode cX12_byteAt 5 = .ok (.if_icmp .ge 16, 3) := by decide +kernel
theorem dX12_byteAt_8 : decode cX12_byteAt 8 = .ok (.aload_n 0, 1) := by decide +kernel
theorem dX12_byteAt_9 : decode cX12_byteAt 9 = .ok (.getfield 13, 3) := by decide +kernel
theorem dX12_byteAt_12 : decode cX12_byteAt 12 = .ok (.iload_n 1, 1) := by decide +kernel
theorem dX12_byteAt_13 : decode cX12_byteAt 13 = .ok (.baload, 1) := by decide +kernel
theorem dX12_byteAt_14 : decode cX12_byteAt 14 = .ok (.sipush 255, 3) := by decide +kernel
theorem dX12_byteAt_17 : decode cX12_byteAt 17 = .ok (.iand, 1) := by decide +kernel
theorem dX12_byteAt_18 : decode cX12_byteAt 18 = .ok (.goto 4, 3) := by decide +kernel
theorem dX12_byteAt_21 : decode cX12_byteAt 21 = .ok (.iconst (-1), 1) := by decide +kernel
theorem dX12_byteAt_22 : decode cX12_byteAt 22 = .ok (.ireturn, 1) := by decide +kernel
theorem dX12_isLetter_0 : decode cX12_isLetter 0 = .ok (.iload_n 0, 1) := by decide +kernel
theorem dX12_isLetter_1 : decode cX12_isLetter 1 = .ok (.bipush 97, 2) := by decide +kernel
theorem dX12_isLetter_3 : decode cX12_isLetter 3 = .ok (.if_icmp .lt 13, 3) := by decide +kernel
theorem dX12_isLetter_6 : decode cX12_isLetter 6 = .ok (.iload_n 0, 1) := by decide +kernel
theorem dX12_isLetter_7 : decode cX12_isLetter 7 = .ok (.bipush 122, 2) := by decide +kernel
theorem dX12_isLetter_9 : decode cX12_isLetter 9 = .ok (.if_icmp .gt 7, 3) := by decide +kernel
theorem dX12_isLetter_12 : decode cX12_isLetter 12 = .ok (.iconst 1, 1) := by decide +kernel
theorem dX12_isLetter_13 : decode cX12_isLetter 13 = .ok (.goto 4, 3) := by decide +kernel
theorem dX12_isLetter_16 : decode cX12_isLetter 16 = .ok (.iconst 0, 1) := by decide +kernel
theorem dX12_isLetter_17 : decode cX12_isLetter 17 = .ok (.ireturn, 1) := by decide +kernel
theorem dX12_isDigit_0 : decode cX12_isDigit 0 = .ok (.iload_n 0, 1) := by decide +kernel
theorem dX12_isDigit_1 : decode cX12_isDigit 1 = .ok (.bipush 48, 2) := by decide +kernel
theorem dX12_isDigit_3 : decode cX12_isDigit 3 = .ok (.if_icmp .lt 13, 3) := by decide +kernel
theorem dX12_isDigit_6 : decode cX12_isDigit 6 = .ok (.iload_n 0, 1) := by decide +kernel
theorem dX12_isDigit_7 : decode cX12_isDigit 7 = .ok (.bipush 57, 2) := by decide +kernel
theorem dX12_isDigit_9 : decode cX12_isDigit 9 = .ok (.if_icmp .gt 7, 3) := by decide +kernel
theorem dX12_isDigit_12 : decode cX12_isDigit 12 = .ok (.iconst 1, 1) := by decide +kernel
theorem dX12_isDigit_13 : decode cX12_isDigit 13 = .ok (.goto 4, 3) := by decide +kernel
theorem dX12_isDigit_16 : decode cX12_isDigit 16 = .ok (.iconst 0, 1) := by decide +kernel
theorem dX12_isDigit_17 : decode cX12_isDigit 17 = .ok (.ireturn, 1) := by decide +kernel
theorem dX12_packed_0 : decode cX12_packed 0 = .ok (.lconst 0, 1) := by decide +kernel
theorem dX12_packed_1 : decode cX12_packed 1 = .ok (.lstore_n 1, 1) := by decide +kernel
theorem dX12_packed_2 : decode cX12_packed 2 = .ok (.iconst 0, 1) := by decide +kernel
theorem dX12_packed_3 : decode cX12_packed 3 = .ok (.istore_n 3, 1) := by decide +kernel
theorem dX12_packed_4 : decode cX12_packed 4 = .ok (.iload_n 3, 1) := by decide +kernel
theorem dX12_packed_5 : decode cX12_packed 5 = .ok (.aload_n 0, 1) := by decide +kernel
theorem dX12_packed_6 : decode cX12_packed 6 = .ok (.invokevirtual 59, 3) := by decide +kernel
theorem dX12_packed_9 : decode cX12_packed 9 = .ok (.if_icmp .ge 27, 3) := by decide +kernel
theorem dX12_packed_12 : decode cX12_packed 12 = .ok (.ldc2_w 65, 3) := by decide +kernel
theorem dX12_packed_15 : decode cX12_packed 15 = .ok (.lload_n 1, 1) := by decide +kernel
theorem dX12_packed_16 : decode cX12_packed 16 = .ok (.lmul, 1) := by decide +kernel
theorem dX12_packed_17 : decode cX12_packed 17 = .ok (.aload_n 0, 1) := by decide +kernel
theorem dX12_packed_18 : decode cX12_packed 18 = .ok (.iload_n 3, 1) := by decide +kernel
theorem dX12_packed_19 : decode cX12_packed 19 = .ok (.invokevirtual 67, 3) := by decide +kernel
theorem dX12_packed_22 : decode cX12_packed 22 = .ok (.bipush 97, 2) := by decide +kernel
theorem dX12_packed_24 : decode cX12_packed 24 = .ok (.isub, 1) := by decide +kernel
theorem dX12_packed_25 : decode cX12_packed 25 = .ok (.iconst 1, 1) := by decide +kernel
theorem dX12_packed_26 : decode cX12_packed 26 = .ok (.iadd, 1) := by decide +kernel
theorem dX12_packed_27 : decode cX12_packed 27 = .ok (.i2l, 1) := by decide +kernel
theorem dX12_packed_28 : decode cX12_packed 28 = .ok (.ladd, 1) := by decide +kernel
theorem dX12_packed_29 : decode cX12_packed 29 = .ok (.lstore_n 1, 1) := by decide +kernel
theorem dX12_packed_30 : decode cX12_packed 30 = .ok (.iinc 3 1, 3) := by decide +kernel
theorem dX12_packed_33 : decode cX12_packed 33 = .ok (.goto (-29), 3) := by decide +kernel
theorem dX12_packed_36 : decode cX12_packed 36 = .ok (.lload_n 1, 1) := by decide +kernel
theorem dX12_packed_37 : decode cX12_packed 37 = .ok (.lreturn, 1) := by decide +kernel
theorem dX12_goesOn_0 : decode cX12_goesOn 0 = .ok (.aload_n 0, 1) := by decide +kernel
theorem dX12_goesOn_1 : decode cX12_goesOn 1 = .ok (.getfield 71, 3) := by decide +kernel
theorem dX12_goesOn_4 : decode cX12_goesOn 4 = .ok (.iconst 5, 1) := by decide +kernel
theorem dX12_goesOn_5 : decode cX12_goesOn 5 = .ok (.if_icmp .ne 4, 3) := by decide +kernel
theorem dX12_goesOn_8 : decode cX12_goesOn 8 = .ok (.return_, 1) := by decide +kernel
theorem dX12_goesOn_9 : decode cX12_goesOn 9 = .ok (.aload_n 0, 1) := by decide +kernel
theorem dX12_goesOn_10 : decode cX12_goesOn 10 = .ok (.aload_n 0, 1) := by decide +kernel
theorem dX12_goesOn_11 : decode cX12_goesOn 11 = .ok (.getfield 74, 3) := by decide +kernel
theorem dX12_goesOn_14 : decode cX12_goesOn 14 = .ok (.invokevirtual 77, 3) := by decide +kernel
theorem dX12_goesOn_17 : decode cX12_goesOn 17 = .ok (.bipush 32, 2) := by decide +kernel
theorem dX12_goesOn_19 : decode cX12_goesOn 19 = .ok (.if_icmp .ne 16, 3) := by decide +kernel
theorem dX12_goesOn_22 : decode cX12_goesOn 22 = .ok (.aload_n 0, 1) := by decide +kernel
theorem dX12_goesOn_23 : decode cX12_goesOn 23 = .ok (.dup, 1) := by decide +kernel
theorem dX12_goesOn_24 : decode cX12_goesOn 24 = .ok (.getfield 74, 3) := by decide +kernel
theorem dX12_goesOn_27 : decode cX12_goesOn 27 = .ok (.iconst 1, 1) := by decide +kernel
theorem dX12_goesOn_28 : decode cX12_goesOn 28 = .ok (.iadd, 1) := by decide +kernel
theorem dX12_goesOn_29 : decode cX12_goesOn 29 = .ok (.putfield 74, 3) := by decide +kernel
theorem dX12_goesOn_32 : decode cX12_goesOn 32 = .ok (.goto (-23), 3) := by decide +kernel
theorem dX12_goesOn_35 : decode cX12_goesOn 35 = .ok (.aload_n 0, 1) := by decide +kernel
theorem dX12_goesOn_36 : decode cX12_goesOn 36 = .ok (.aload_n 0, 1) := by decide +kernel
theorem dX12_goesOn_37 : decode cX12_goesOn 37 = .ok (.getfield 74, 3) := by decide +kernel
theorem dX12_goesOn_40 : decode cX12_goesOn 40 = .ok (.putfield 80, 3) := by decide +kernel
theorem dX12_goesOn_43 : decode cX12_goesOn 43 = .ok (.aload_n 0, 1) := by decide +kernel
theorem dX12_goesOn_44 : decode cX12_goesOn 44 = .ok (.iconst 0, 1) := by decide +kernel
theorem dX12_goesOn_45 : decode cX12_goesOn 45 = .ok (.putfield 71, 3) := by decide +kernel
theorem dX12_goesOn_48 : decode cX12_goesOn 48 = .ok (.aload_n 0, 1) := by decide +kernel
theorem dX12_goesOn_49 : decode cX12_goesOn 49 = .ok (.aload_n 0, 1) := by decide +kernel
theorem dX12_goesOn_50 : decode cX12_goesOn 50 = .ok (.getfield 74, 3) := by decide +kernel
theorem dX12_goesOn_53 : decode cX12_goesOn 53 = .ok (.invokevirtual 77, 3) := by decide +kernel
theorem dX12_goesOn_56 : decode cX12_goesOn 56 = .ok (.istore_n 1, 1) := by decide +kernel
theorem dX12_goesOn_57 : decode cX12_goesOn 57 = .ok (.iconst 0, 1) := by decide +kernel
theorem dX12_goesOn_58 : decode cX12_goesOn 58 = .ok (.istore_n 2, 1) := by decide +kernel
theorem dX12_goesOn_59 : decode cX12_goesOn 59 = .ok (.iload_n 1, 1) := by decide +kernel
theorem dX12_goesOn_60 : decode cX12_goesOn 60 = .ok (.iconst (-1), 1) := by decide +kernel
theorem dX12_goesOn_61 : decode cX12_goesOn 61 = .ok (.if_icmp .ne 11, 3) := by decide +kernel
theorem dX12_goesOn_64 : decode cX12_goesOn 64 = .ok (.aload_n 0, 1) := by decide +kernel
theorem dX12_goesOn_65 : decode cX12_goesOn 65 = .ok (.iconst 1, 1) := by decide +kernel
theorem dX12_goesOn_66 : decode cX12_goesOn 66 = .ok (.putfield 71, 3) := by decide +kernel
theorem dX12_goesOn_69 : decode cX12_goesOn 69 = .ok (.goto 196, 3) := by decide +kernel
theorem dX12_goesOn_72 : decode cX12_goesOn 72 = .ok (.iload_n 1, 1) := by decide +kernel
theorem dX12_goesOn_73 : decode cX12_goesOn 73 = .ok (.invokestatic 83, 3) := by decide +kernel
theorem dX12_goesOn_76 : decode cX12_goesOn 76 = .ok (.ifCond .eq 85, 3) := by decide +kernel
theorem dX12_goesOn_79 : decode cX12_goesOn 79 = .ok (.aload_n 0, 1) := by decide +kernel
theorem dX12_goesOn_80 : decode cX12_goesOn 80 = .ok (.lconst 0, 1) := by decide +kernel
theorem dX12_goesOn_81 : decode cX12_goesOn 81 = .ok (.putfield 87, 3) := by decide +kernel
theorem dX12_goesOn_84 : decode cX12_goesOn 84 = .ok (.aload_n 0, 1) := by decide +kernel
theorem dX12_goesOn_85 : decode cX12_goesOn 85 = .ok (.aload_n 0, 1) := by decide +kernel
theorem dX12_goesOn_86 : decode cX12_goesOn 86 = .ok (.getfield 74, 3) := by decide +kernel
theorem dX12_goesOn_89 : decode cX12_goesOn 89 = .ok (.invokevirtual 77, 3) := by decide +kernel
theorem dX12_goesOn_92 : decode cX12_goesOn 92 = .ok (.invokestatic 83, 3) := by decide +kernel
theorem dX12_goesOn_95 : decode cX12_goesOn 95 = .ok (.ifCond .eq 52, 3) := by decide +kernel
theorem dX12_goesOn_98 : decode cX12_goesOn 98 = .ok (.iload_n 2, 1) := by decide +kernel
theorem dX12_goesOn_99 : decode cX12_goesOn 99 = .ok (.bipush 8, 2) := by decide +kernel
theorem dX12_goesOn_101 : decode cX12_goesOn 101 = .ok (.if_icmp .ge 30, 3) := by decide +kernel
theorem dX12_goesOn_104 : decode cX12_goesOn 104 = .ok (.aload_n 0, 1) := by decide +kernel
theorem dX12_goesOn_105 : decode cX12_goesOn 105 = .ok (.ldc2_w 65, 3) := by decide +kernel
theorem dX12_goesOn_108 : decode cX12_goesOn 108 = .ok (.aload_n 0, 1) := by decide +kernel
theorem dX12_goesOn_109 : decode cX12_goesOn 109 = .ok (.getfield 87, 3) := by decide +kernel
theorem dX12_goesOn_112 : decode cX12_goesOn 112 = .ok (.lmul, 1) := by decide +kernel
theorem dX12_goesOn_113 : decode cX12_goesOn 113 = .ok (.aload_n 0, 1) := by decide +kernel
theorem dX12_goesOn_114 : decode cX12_goesOn 114 = .ok (.aload_n 0, 1) := by decide +kernel
theorem dX12_goesOn_115 : decode cX12_goesOn 115 = .ok (.getfield 74, 3) := by decide +kernel
theorem dX12_goesOn_118 : decode cX12_goesOn 118 = .ok (.invokevirtual 77, 3) := by decide +kernel
theorem dX12_goesOn_121 : decode cX12_goesOn 121 = .ok (.bipush 97, 2) := by decide +kernel
theorem dX12_goesOn_123 : decode cX12_goesOn 123 = .ok (.isub, 1) := by decide +kernel
theorem dX12_goesOn_124 : decode cX12_goesOn 124 = .ok (.iconst 1, 1) := by decide +kernel
theorem dX12_goesOn_125 : decode cX12_goesOn 125 = .ok (.iadd, 1) := by decide +kernel
theorem dX12_goesOn_126 : decode cX12_goesOn 126 = .ok (.i2l, 1) := by decide +kernel
theorem dX12_goesOn_127 : decode cX12_goesOn 127 = .ok (.ladd, 1) := by decide +kernel
theorem dX12_goesOn_128 : decode cX12_goesOn 128 = .ok (.putfield 87, 3) := by decide +kernel
theorem dX12_goesOn_131 : decode cX12_goesOn 131 = .ok (.iinc 2 1, 3) := by decide +kernel
theorem dX12_goesOn_134 : decode cX12_goesOn 134 = .ok (.aload_n 0, 1) := by decide +kernel
theorem dX12_goesOn_135 : decode cX12_goesOn 135 = .ok (.dup, 1) := by decide +kernel
theorem dX12_goesOn_136 : decode cX12_goesOn 136 = .ok (.getfield 74, 3) := by decide +kernel
theorem dX12_goesOn_139 : decode cX12_goesOn 139 = .ok (.iconst 1, 1) := by decide +kernel
theorem dX12_goesOn_140 : decode cX12_goesOn 140 = .ok (.iadd, 1) := by decide +kernel
theorem dX12_goesOn_141 : decode cX12_goesOn 141 = .ok (.putfield 74, 3) := by decide +kernel
theorem dX12_goesOn_144 : decode cX12_goesOn 144 = .ok (.goto (-60), 3) := by decide +kernel
theorem dX12_goesOn_147 : decode cX12_goesOn 147 = .ok (.iload_n 2, 1) := by decide +kernel
theorem dX12_goesOn_148 : decode cX12_goesOn 148 = .ok (.bipush 8, 2) := by decide +kernel
theorem dX12_goesOn_150 : decode cX12_goesOn 150 = .ok (.if_icmp .gt 115, 3) := by decide +kernel
theorem dX12_goesOn_153 : decode cX12_goesOn 153 = .ok (.aload_n 0, 1) := by decide +kernel
theorem dX12_goesOn_154 : decode cX12_goesOn 154 = .ok (.iconst 2, 1) := by decide +kernel
theorem dX12_goesOn_155 : decode cX12_goesOn 155 = .ok (.putfield 71, 3) := by decide +kernel
theorem dX12_goesOn_158 : decode cX12_goesOn 158 = .ok (.goto 107, 3) := by decide +kernel
theorem dX12_goesOn_161 : decode cX12_goesOn 161 = .ok (.iload_n 1, 1) := by decide +kernel
theorem dX12_goesOn_162 : decode cX12_goesOn 162 = .ok (.invokestatic 91, 3) := by decide +kernel
theorem dX12_goesOn_165 : decode cX12_goesOn 165 = .ok (.ifCond .eq 79, 3) := by decide +kernel
theorem dX12_goesOn_168 : decode cX12_goesOn 168 = .ok (.aload_n 0, 1) := by decide +kernel
theorem dX12_goesOn_169 : decode cX12_goesOn 169 = .ok (.iconst 0, 1) := by decide +kernel
theorem dX12_goesOn_170 : decode cX12_goesOn 170 = .ok (.putfield 94, 3) := by decide +kernel
theorem dX12_goesOn_173 : decode cX12_goesOn 173 = .ok (.aload_n 0, 1) := by decide +kernel
theorem dX12_goesOn_174 : decode cX12_goesOn 174 = .ok (.aload_n 0, 1) := by decide +kernel
theorem dX12_goesOn_175 : decode cX12_goesOn 175 = .ok (.getfield 74, 3) := by decide +kernel
theorem dX12_goesOn_178 : decode cX12_goesOn 178 = .ok (.invokevirtual 77, 3) := by decide +kernel
theorem dX12_goesOn_181 : decode cX12_goesOn 181 = .ok (.invokestatic 91, 3) := by decide +kernel
theorem dX12_goesOn_184 : decode cX12_goesOn 184 = .ok (.ifCond .eq 47, 3) := by decide +kernel
theorem dX12_goesOn_187 : decode cX12_goesOn 187 = .ok (.iload_n 2, 1) := by decide +kernel
theorem dX12_goesOn_188 : decode cX12_goesOn 188 = .ok (.iconst 3, 1) := by decide +kernel
theorem dX12_goesOn_189 : decode cX12_goesOn 189 = .ok (.if_icmp .ge 26, 3) := by decide +kernel
theorem dX12_goesOn_192 : decode cX12_goesOn 192 = .ok (.aload_n 0, 1) := by decide +kernel
theorem dX12_goesOn_193 : decode cX12_goesOn 193 = .ok (.bipush 10, 2) := by decide +kernel
theorem dX12_goesOn_195 : decode cX12_goesOn 195 = .ok (.aload_n 0, 1) := by decide +kernel
theorem dX12_goesOn_196 : decode cX12_goesOn 196 = .ok (.getfield 94, 3) := by decide +kernel
theorem dX12_goesOn_199 : decode cX12_goesOn 199 = .ok (.imul, 1) := by decide +kernel
theorem dX12_goesOn_200 : decode cX12_goesOn 200 = .ok (.aload_n 0, 1) := by decide +kernel
theorem dX12_goesOn_201 : decode cX12_goesOn 201 = .ok (.aload_n 0, 1) := by decide +kernel
theorem dX12_goesOn_202 : decode cX12_goesOn 202 = .ok (.getfield 74, 3) := by decide +kernel
theorem dX12_goesOn_205 : decode cX12_goesOn 205 = .ok (.invokevirtual 77, 3) := by decide +kernel
theorem dX12_goesOn_208 : decode cX12_goesOn 208 = .ok (.iadd, 1) := by decide +kernel
theorem dX12_goesOn_209 : decode cX12_goesOn 209 = .ok (.bipush 48, 2) := by decide +kernel
theorem dX12_goesOn_211 : decode cX12_goesOn 211 = .ok (.isub, 1) := by decide +kernel
theorem dX12_goesOn_212 : decode cX12_goesOn 212 = .ok (.putfield 94, 3) := by decide +kernel
theorem dX12_goesOn_215 : decode cX12_goesOn 215 = .ok (.iinc 2 1, 3) := by decide +kernel
theorem dX12_goesOn_218 : decode cX12_goesOn 218 = .ok (.aload_n 0, 1) := by decide +kernel
theorem dX12_goesOn_219 : decode cX12_goesOn 219 = .ok (.dup, 1) := by decide +kernel
theorem dX12_goesOn_220 : decode cX12_goesOn 220 = .ok (.getfield 74, 3) := by decide +kernel
theorem dX12_goesOn_223 : decode cX12_goesOn 223 = .ok (.iconst 1, 1) := by decide +kernel
theorem dX12_goesOn_224 : decode cX12_goesOn 224 = .ok (.iadd, 1) := by decide +kernel
theorem dX12_goesOn_225 : decode cX12_goesOn 225 = .ok (.putfield 74, 3) := by decide +kernel
theorem dX12_goesOn_228 : decode cX12_goesOn 228 = .ok (.goto (-55), 3) := by decide +kernel
theorem dX12_goesOn_231 : decode cX12_goesOn 231 = .ok (.iload_n 2, 1) := by decide +kernel
theorem dX12_goesOn_232 : decode cX12_goesOn 232 = .ok (.iconst 3, 1) := by decide +kernel
theorem dX12_goesOn_233 : decode cX12_goesOn 233 = .ok (.if_icmp .gt 32, 3) := by decide +kernel
theorem dX12_goesOn_236 : decode cX12_goesOn 236 = .ok (.aload_n 0, 1) := by decide +kernel
theorem dX12_goesOn_237 : decode cX12_goesOn 237 = .ok (.iconst 3, 1) := by decide +kernel
theorem dX12_goesOn_238 : decode cX12_goesOn 238 = .ok (.putfield 71, 3) := by decide +kernel
theorem dX12_goesOn_241 : decode cX12_goesOn 241 = .ok (.goto 24, 3) := by decide +kernel
theorem dX12_goesOn_244 : decode cX12_goesOn 244 = .ok (.iload_n 1, 1) := by decide +kernel
theorem dX12_goesOn_245 : decode cX12_goesOn 245 = .ok (.bipush 59, 2) := by decide +kernel
theorem dX12_goesOn_247 : decode cX12_goesOn 247 = .ok (.if_icmp .ne 18, 3) := by decide +kernel
theorem dX12_goesOn_250 : decode cX12_goesOn 250 = .ok (.aload_n 0, 1) := by decide +kernel
theorem dX12_goesOn_251 : decode cX12_goesOn 251 = .ok (.iconst 4, 1) := by decide +kernel
theorem dX12_goesOn_252 : decode cX12_goesOn 252 = .ok (.putfield 71, 3) := by decide +kernel
theorem dX12_goesOn_255 : decode cX12_goesOn 255 = .ok (.aload_n 0, 1) := by decide +kernel
theorem dX12_goesOn_256 : decode cX12_goesOn 256 = .ok (.dup, 1) := by decide +kernel
theorem dX12_goesOn_257 : decode cX12_goesOn 257 = .ok (.getfield 74, 3) := by decide +kernel
theorem dX12_goesOn_260 : decode cX12_goesOn 260 = .ok (.iconst 1, 1) := by decide +kernel
theorem dX12_goesOn_261 : decode cX12_goesOn 261 = .ok (.iadd, 1) := by decide +kernel
theorem dX12_goesOn_262 : decode cX12_goesOn 262 = .ok (.putfield 74, 3) := by decide +kernel
theorem dX12_goesOn_265 : decode cX12_goesOn 265 = .ok (.return_, 1) := by decide +kernel
theorem dX12_flaw_0 : decode cX12_flaw 0 = .ok (.aload_n 0, 1) := by decide +kernel
theorem dX12_flaw_1 : decode cX12_flaw 1 = .ok (.getfield 71, 3) := by decide +kernel
theorem dX12_flaw_4 : decode cX12_flaw 4 = .ok (.iconst 5, 1) := by decide +kernel
theorem dX12_flaw_5 : decode cX12_flaw 5 = .ok (.if_icmp .ne 4, 3) := by decide +kernel
theorem dX12_flaw_8 : decode cX12_flaw 8 = .ok (.return_, 1) := by decide +kernel
theorem dX12_flaw_9 : decode cX12_flaw 9 = .ok (.aload_n 0, 1) := by decide +kernel
theorem dX12_flaw_10 : decode cX12_flaw 10 = .ok (.iload_n 1, 1) := by decide +kernel
theorem dX12_flaw_11 : decode cX12_flaw 11 = .ok (.putfield 97, 3) := by decide +kernel
theorem dX12_flaw_14 : decode cX12_flaw 14 = .ok (.aload_n 0, 1) := by decide +kernel
theorem dX12_flaw_15 : decode cX12_flaw 15 = .ok (.aload_n 0, 1) := by decide +kernel
theorem dX12_flaw_16 : decode cX12_flaw 16 = .ok (.getfield 80, 3) := by decide +kernel
theorem dX12_flaw_19 : decode cX12_flaw 19 = .ok (.putfield 100, 3) := by decide +kernel
theorem dX12_flaw_22 : decode cX12_flaw 22 = .ok (.aload_n 0, 1) := by decide +kernel
theorem dX12_flaw_23 : decode cX12_flaw 23 = .ok (.iconst 5, 1) := by decide +kernel
theorem dX12_flaw_24 : decode cX12_flaw 24 = .ok (.putfield 71, 3) := by decide +kernel
theorem dX12_flaw_27 : decode cX12_flaw 27 = .ok (.return_, 1) := by decide +kernel
theorem dX12_isWord_0 : decode cX12_isWord 0 = .ok (.aload_n 0, 1) := by decide +kernel
theorem dX12_isWord_1 : decode cX12_isWord 1 = .ok (.getfield 71, 3) := by decide +kernel
theorem dX12_isWord_4 : decode cX12_isWord 4 = .ok (.iconst 2, 1) := by decide +kernel
theorem dX12_isWord_5 : decode cX12_isWord 5 = .ok (.if_icmp .ne 19, 3) := by decide +kernel
theorem dX12_isWord_8 : decode cX12_isWord 8 = .ok (.aload_n 0, 1) := by decide +kernel
theorem dX12_isWord_9 : decode cX12_isWord 9 = .ok (.getfield 87, 3) := by decide +kernel
theorem dX12_isWord_12 : decode cX12_isWord 12 = .ok (.aload_n 1, 1) := by decide +kernel
theorem dX12_isWord_13 : decode cX12_isWord 13 = .ok (.invokestatic 103, 3) := by decide +kernel
theorem dX12_isWord_16 : decode cX12_isWord 16 = .ok (.lcmp, 1) := by decide +kernel
theorem dX12_isWord_17 : decode cX12_isWord 17 = .ok (.ifCond .ne 7, 3) := by decide +kernel
theorem dX12_isWord_20 : decode cX12_isWord 20 = .ok (.iconst 1, 1) := by decide +kernel
theorem dX12_isWord_21 : decode cX12_isWord 21 = .ok (.goto 4, 3) := by decide +kernel
theorem dX12_isWord_24 : decode cX12_isWord 24 = .ok (.iconst 0, 1) := by decide +kernel
theorem dX12_isWord_25 : decode cX12_isWord 25 = .ok (.ireturn, 1) := by decide +kernel
theorem dX12_eatsSemicolon_0 : decode cX12_eatsSemicolon 0 = .ok (.aload_n 0, 1) := by decide +kernel
theorem dX12_eatsSemicolon_1 : decode cX12_eatsSemicolon 1 = .ok (.getfield 71, 3) := by decide +kernel
theorem dX12_eatsSemicolon_4 : decode cX12_eatsSemicolon 4 = .ok (.iconst 4, 1) := by decide +kernel
theorem dX12_eatsSemicolon_5 : decode cX12_eatsSemicolon 5 = .ok (.if_icmp .ne 7, 3) := by decide +kernel
theorem dX12_eatsSemicolon_8 : decode cX12_eatsSemicolon 8 = .ok (.iconst 1, 1) := by decide +kernel
theorem dX12_eatsSemicolon_9 : decode cX12_eatsSemicolon 9 = .ok (.goto 4, 3) := by decide +kernel
theorem dX12_eatsSemicolon_12 : decode cX12_eatsSemicolon 12 = .ok (.iconst 0, 1) := by decide +kernel
theorem dX12_eatsSemicolon_13 : decode cX12_eatsSemicolon 13 = .ok (.istore_n 1, 1) := by decide +kernel
theorem dX12_eatsSemicolon_14 : decode cX12_eatsSemicolon 14 = .ok (.iload_n 1, 1) := by decide +kernel
theorem dX12_eatsSemicolon_15 : decode cX12_eatsSemicolon 15 = .ok (.ifCond .eq 7, 3) := by decide +kernel
theorem dX12_eatsSemicolon_18 : decode cX12_eatsSemicolon 18 = .ok (.aload_n 0, 1) := by decide +kernel
theorem dX12_eatsSemicolon_19 : decode cX12_eatsSemicolon 19 = .ok (.invokevirtual 107, 3) := by decide +kernel
theorem dX12_eatsSemicolon_22 : decode cX12_eatsSemicolon 22 = .ok (.iload_n 1, 1) := by decide +kernel
theorem dX12_eatsSemicolon_23 : decode cX12_eatsSemicolon 23 = .ok (.ireturn, 1) := by decide +kernel
theorem dX12_needs_0 : decode cX12_needs 0 = .ok (.aload_n 0, 1) := by decide +kernel
theorem dX12_needs_1 : decode cX12_needs 1 = .ok (.aload_n 1, 1) := by decide +kernel
theorem dX12_needs_2 : decode cX12_needs 2 = .ok (.invokevirtual 110, 3) := by decide +kernel
theorem dX12_needs_5 : decode cX12_needs 5 = .ok (.ifCond .ne 8, 3) := by decide +kernel
theorem dX12_needs_8 : decode cX12_needs 8 = .ok (.aload_n 0, 1) := by decide +kernel
theorem dX12_needs_9 : decode cX12_needs 9 = .ok (.iconst 1, 1) := by decide +kernel
theorem dX12_needs_10 : decode cX12_needs 10 = .ok (.invokevirtual 114, 3) := by decide +kernel
theorem dX12_needs_13 : decode cX12_needs 13 = .ok (.aload_n 0, 1) := by decide +kernel
theorem dX12_needs_14 : decode cX12_needs 14 = .ok (.invokevirtual 107, 3) := by decide +kernel
theorem dX12_needs_17 : decode cX12_needs 17 = .ok (.return_, 1) := by decide +kernel
theorem dX12_wholeAt_0 : decode cX12_wholeAt 0 = .ok (.aload_n 0, 1) := by decide +kernel
theorem dX12_wholeAt_1 : decode cX12_wholeAt 1 = .ok (.getfield 71, 3) := by decide +kernel
theorem dX12_wholeAt_4 : decode cX12_wholeAt 4 = .ok (.iconst 3, 1) := by decide +kernel
theorem dX12_wholeAt_5 : decode cX12_wholeAt 5 = .ok (.if_icmp .eq 11, 3) := by decide +kernel
theorem dX12_wholeAt_8 : decode cX12_wholeAt 8 = .ok (.aload_n 0, 1) := by decide +kernel
theorem dX12_wholeAt_9 : decode cX12_wholeAt 9 = .ok (.iconst 1, 1) := by decide +kernel
theorem dX12_wholeAt_10 : decode cX12_wholeAt 10 = .ok (.invokevirtual 114, 3) := by decide +kernel
theorem dX12_wholeAt_13 : decode cX12_wholeAt 13 = .ok (.goto 20, 3) := by decide +kernel
theorem dX12_wholeAt_16 : decode cX12_wholeAt 16 = .ok (.aload_n 0, 1) := by decide +kernel
theorem dX12_wholeAt_17 : decode cX12_wholeAt 17 = .ok (.getfield 94, 3) := by decide +kernel
theorem dX12_wholeAt_20 : decode cX12_wholeAt 20 = .ok (.iload_n 1, 1) := by decide +kernel
theorem dX12_wholeAt_21 : decode cX12_wholeAt 21 = .ok (.iload_n 2, 1) := by decide +kernel
theorem dX12_wholeAt_22 : decode cX12_wholeAt 22 = .ok (.invokestatic 118, 3) := by decide +kernel
theorem dX12_wholeAt_25 : decode cX12_wholeAt 25 = .ok (.ifCond .ne 8, 3) := by decide +kernel
theorem dX12_wholeAt_28 : decode cX12_wholeAt 28 = .ok (.aload_n 0, 1) := by decide +kernel
theorem dX12_wholeAt_29 : decode cX12_wholeAt 29 = .ok (.iconst 4, 1) := by decide +kernel
theorem dX12_wholeAt_30 : decode cX12_wholeAt 30 = .ok (.invokevirtual 114, 3) := by decide +kernel
theorem dX12_wholeAt_33 : decode cX12_wholeAt 33 = .ok (.aload_n 0, 1) := by decide +kernel
theorem dX12_wholeAt_34 : decode cX12_wholeAt 34 = .ok (.getfield 71, 3) := by decide +kernel
theorem dX12_wholeAt_37 : decode cX12_wholeAt 37 = .ok (.iconst 5, 1) := by decide +kernel
theorem dX12_wholeAt_38 : decode cX12_wholeAt 38 = .ok (.if_icmp .ne 7, 3) := by decide +kernel
theorem dX12_wholeAt_41 : decode cX12_wholeAt 41 = .ok (.iload_n 1, 1) := by decide +kernel
theorem dX12_wholeAt_42 : decode cX12_wholeAt 42 = .ok (.goto 7, 3) := by decide +kernel
theorem dX12_wholeAt_45 : decode cX12_wholeAt 45 = .ok (.aload_n 0, 1) := by decide +kernel
theorem dX12_wholeAt_46 : decode cX12_wholeAt 46 = .ok (.getfield 94, 3) := by decide +kernel
theorem dX12_wholeAt_49 : decode cX12_wholeAt 49 = .ok (.ireturn, 1) := by decide +kernel
theorem dX12_readWhole_0 : decode cX12_readWhole 0 = .ok (.aload_n 0, 1) := by decide +kernel
theorem dX12_readWhole_1 : decode cX12_readWhole 1 = .ok (.iload_n 1, 1) := by decide +kernel
theorem dX12_readWhole_2 : decode cX12_readWhole 2 = .ok (.iload_n 2, 1) := by decide +kernel
theorem dX12_readWhole_3 : decode cX12_readWhole 3 = .ok (.invokevirtual 122, 3) := by decide +kernel
theorem dX12_readWhole_6 : decode cX12_readWhole 6 = .ok (.istore_n 3, 1) := by decide +kernel
theorem dX12_readWhole_7 : decode cX12_readWhole 7 = .ok (.aload_n 0, 1) := by decide +kernel
theorem dX12_readWhole_8 : decode cX12_readWhole 8 = .ok (.invokevirtual 107, 3) := by decide +kernel
theorem dX12_readWhole_11 : decode cX12_readWhole 11 = .ok (.iload_n 3, 1) := by decide +kernel
theorem dX12_readWhole_12 : decode cX12_readWhole 12 = .ok (.ireturn, 1) := by decide +kernel
theorem dX12_readPart_0 : decode cX12_readPart 0 = .ok (.aload_n 0, 1) := by decide +kernel
theorem dX12_readPart_1 : decode cX12_readPart 1 = .ok (.aload_n 1, 1) := by decide +kernel
theorem dX12_readPart_2 : decode cX12_readPart 2 = .ok (.invokevirtual 126, 3) := by decide +kernel
theorem dX12_readPart_5 : decode cX12_readPart 5 = .ok (.aload_n 0, 1) := by decide +kernel
theorem dX12_readPart_6 : decode cX12_readPart 6 = .ok (.iload_n 2, 1) := by decide +kernel
theorem dX12_readPart_7 : decode cX12_readPart 7 = .ok (.iload_n 3, 1) := by decide +kernel
theorem dX12_readPart_8 : decode cX12_readPart 8 = .ok (.invokevirtual 130, 3) := by decide +kernel
theorem dX12_readPart_11 : decode cX12_readPart 11 = .ok (.ireturn, 1) := by decide +kernel
theorem dX12_isName_0 : decode cX12_isName 0 = .ok (.aload_n 0, 1) := by decide +kernel
theorem dX12_isName_1 : decode cX12_isName 1 = .ok (.getfield 71, 3) := by decide +kernel
theorem dX12_isName_4 : decode cX12_isName 4 = .ok (.iconst 2, 1) := by decide +kernel
theorem dX12_isName_5 : decode cX12_isName 5 = .ok (.if_icmp .ne 30, 3) := by decide +kernel
theorem dX12_isName_8 : decode cX12_isName 8 = .ok (.aload_n 0, 1) := by decide +kernel
theorem dX12_isName_9 : decode cX12_isName 9 = .ok (.ldc 133, 2) := by decide +kernel
theorem dX12_isName_11 : decode cX12_isName 11 = .ok (.invokevirtual 110, 3) := by decide +kernel
theorem dX12_isName_14 : decode cX12_isName 14 = .ok (.ifCond .ne 21, 3) := by decide +kernel
theorem dX12_isName_17 : decode cX12_isName 17 = .ok (.aload_n 0, 1) := by decide +kernel
theorem dX12_isName_18 : decode cX12_isName 18 = .ok (.ldc 135, 2) := by decide +kernel
theorem dX12_isName_20 : decode cX12_isName 20 = .ok (.invokevirtual 110, 3) := by decide +kernel
theorem dX12_isName_23 : decode cX12_isName 23 = .ok (.ifCond .ne 12, 3) := by decide +kernel
theorem dX12_isName_26 : decode cX12_isName 26 = .ok (.aload_n 0, 1) := by decide +kernel
theorem dX12_isName_27 : decode cX12_isName 27 = .ok (.ldc 137, 2) := by decide +kernel
theorem dX12_isName_29 : decode cX12_isName 29 = .ok (.invokevirtual 110, 3) := by decide +kernel
theorem dX12_isName_32 : decode cX12_isName 32 = .ok (.ifCond .eq 5, 3) := by decide +kernel
theorem dX12_isName_35 : decode cX12_isName 35 = .ok (.iconst 0, 1) := by decide +kernel
theorem dX12_isName_36 : decode cX12_isName 36 = .ok (.ireturn, 1) := by decide +kernel
theorem dX12_isName_37 : decode cX12_isName 37 = .ok (.aload_n 0, 1) := by decide +kernel
theorem dX12_isName_38 : decode cX12_isName 38 = .ok (.ldc 139, 2) := by decide +kernel
theorem dX12_isName_40 : decode cX12_isName 40 = .ok (.invokevirtual 110, 3) := by decide +kernel
theorem dX12_isName_43 : decode cX12_isName 43 = .ok (.ifCond .ne 25, 3) := by decide +kernel
theorem dX12_isName_46 : decode cX12_isName 46 = .ok (.aload_n 0, 1) := by decide +kernel
theorem dX12_isName_47 : decode cX12_isName 47 = .ok (.ldc 141, 2) := by decide +kernel
theorem dX12_isName_49 : decode cX12_isName 49 = .ok (.invokevirtual 110, 3) := by decide +kernel
theorem dX12_isName_52 : decode cX12_isName 52 = .ok (.ifCond .ne 16, 3) := by decide +kernel
theorem dX12_isName_55 : decode cX12_isName 55 = .ok (.aload_n 0, 1) := by decide +kernel
theorem dX12_isName_56 : decode cX12_isName 56 = .ok (.ldc 143, 2) := by decide +kernel
theorem dX12_isName_58 : decode cX12_isName 58 = .ok (.invokevirtual 110, 3) := by decide +kernel
theorem dX12_isName_61 : decode cX12_isName 61 = .ok (.ifCond .ne 7, 3) := by decide +kernel
theorem dX12_isName_64 : decode cX12_isName 64 = .ok (.iconst 1, 1) := by decide +kernel
theorem dX12_isName_65 : decode cX12_isName 65 = .ok (.goto 4, 3) := by decide +kernel
theorem dX12_isName_68 : decode cX12_isName 68 = .ok (.iconst 0, 1) := by decide +kernel
theorem dX12_isName_69 : decode cX12_isName 69 = .ok (.ireturn, 1) := by decide +kernel
theorem dX12_lineBegins_0 : decode cX12_lineBegins 0 = .ok (.iload_n 1, 1) := by decide +kernel
theorem dX12_lineBegins_1 : decode cX12_lineBegins 1 = .ok (.iload_n 2, 1) := by decide +kernel
theorem dX12_lineBegins_2 : decode cX12_lineBegins 2 = .ok (.if_icmp .ne 8, 3) := by decide +kernel
theorem dX12_lineBegins_5 : decode cX12_lineBegins 5 = .ok (.aload_n 0, 1) := by decide +kernel
theorem dX12_lineBegins_6 : decode cX12_lineBegins 6 = .ok (.iconst 5, 1) := by decide +kernel
theorem dX12_lineBegins_7 : decode cX12_lineBegins 7 = .ok (.invokevirtual 114, 3) := by decide +kernel
theorem dX12_lineBegins_10 : decode cX12_lineBegins 10 = .ok (.aload_n 0, 1) := by decide +kernel
theorem dX12_lineBegins_11 : decode cX12_lineBegins 11 = .ok (.getfield 145, 3) := by decide +kernel
theorem dX12_lineBegins_14 : decode cX12_lineBegins 14 = .ok (.getfield 149, 3) := by decide +kernel
theorem dX12_lineBegins_17 : decode cX12_lineBegins 17 = .ok (.ifCond .ne 9, 3) := by decide +kernel
theorem dX12_lineBegins_20 : decode cX12_lineBegins 20 = .ok (.aload_n 0, 1) := by decide +kernel
theorem dX12_lineBegins_21 : decode cX12_lineBegins 21 = .ok (.bipush 6, 2) := by decide +kernel
theorem dX12_lineBegins_23 : decode cX12_lineBegins 23 = .ok (.invokevirtual 114, 3) := by decide +kernel
theorem dX12_lineBegins_26 : decode cX12_lineBegins 26 = .ok (.aload_n 0, 1) := by decide +kernel
theorem dX12_lineBegins_27 : decode cX12_lineBegins 27 = .ok (.invokevirtual 107, 3) := by decide +kernel
theorem dX12_lineBegins_30 : decode cX12_lineBegins 30 = .ok (.return_, 1) := by decide +kernel
theorem dX12_personAt_0 : decode cX12_personAt 0 = .ok (.aload_n 0, 1) := by decide +kernel
theorem dX12_personAt_1 : decode cX12_personAt 1 = .ok (.invokevirtual 154, 3) := by decide +kernel
theorem dX12_personAt_4 : decode cX12_personAt 4 = .ok (.ifCond .ne 8, 3) := by decide +kernel
theorem dX12_personAt_7 : decode cX12_personAt 7 = .ok (.aload_n 0, 1) := by decide +kernel
theorem dX12_personAt_8 : decode cX12_personAt 8 = .ok (.iconst 1, 1) := by decide +kernel
theorem dX12_personAt_9 : decode cX12_personAt 9 = .ok (.invokevirtual 114, 3) := by decide +kernel
theorem dX12_personAt_12 : decode cX12_personAt 12 = .ok (.aload_n 0, 1) := by decide +kernel
theorem dX12_personAt_13 : decode cX12_personAt 13 = .ok (.getfield 145, 3) := by decide +kernel
theorem dX12_personAt_16 : decode cX12_personAt 16 = .ok (.aload_n 0, 1) := by decide +kernel
theorem dX12_personAt_17 : decode cX12_personAt 17 = .ok (.getfield 87, 3) := by decide +kernel
theorem dX12_personAt_20 : decode cX12_personAt 20 = .ok (.invokevirtual 158, 3) := by decide +kernel
theorem dX12_personAt_23 : decode cX12_personAt 23 = .ok (.istore_n 1, 1) := by decide +kernel
theorem dX12_personAt_24 : decode cX12_personAt 24 = .ok (.iload_n 1, 1) := by decide +kernel
theorem dX12_personAt_25 : decode cX12_personAt 25 = .ok (.iconst (-1), 1) := by decide +kernel
theorem dX12_personAt_26 : decode cX12_personAt 26 = .ok (.if_icmp .ne 8, 3) := by decide +kernel
theorem dX12_personAt_29 : decode cX12_personAt 29 = .ok (.aload_n 0, 1) := by decide +kernel
theorem dX12_personAt_30 : decode cX12_personAt 30 = .ok (.iconst 2, 1) := by decide +kernel
theorem dX12_personAt_31 : decode cX12_personAt 31 = .ok (.invokevirtual 114, 3) := by decide +kernel
theorem dX12_personAt_34 : decode cX12_personAt 34 = .ok (.aload_n 0, 1) := by decide +kernel
theorem dX12_personAt_35 : decode cX12_personAt 35 = .ok (.getfield 71, 3) := by decide +kernel
theorem dX12_personAt_38 : decode cX12_personAt 38 = .ok (.iconst 5, 1) := by decide +kernel
theorem dX12_personAt_39 : decode cX12_personAt 39 = .ok (.if_icmp .ne 7, 3) := by decide +kernel
theorem dX12_personAt_42 : decode cX12_personAt 42 = .ok (.iconst 0, 1) := by decide +kernel
theorem dX12_personAt_43 : decode cX12_personAt 43 = .ok (.goto 4, 3) := by decide +kernel
theorem dX12_personAt_46 : decode cX12_personAt 46 = .ok (.iload_n 1, 1) := by decide +kernel
theorem dX12_personAt_47 : decode cX12_personAt 47 = .ok (.ireturn, 1) := by decide +kernel
theorem dX12_readPerson_0 : decode cX12_readPerson 0 = .ok (.aload_n 0, 1) := by decide +kernel
theorem dX12_readPerson_1 : decode cX12_readPerson 1 = .ok (.invokevirtual 162, 3) := by decide +kernel
theorem dX12_readPerson_4 : decode cX12_readPerson 4 = .ok (.istore_n 1, 1) := by decide +kernel
theorem dX12_readPerson_5 : decode cX12_readPerson 5 = .ok (.aload_n 0, 1) := by decide +kernel
theorem dX12_readPerson_6 : decode cX12_readPerson 6 = .ok (.invokevirtual 107, 3) := by decide +kernel
theorem dX12_readPerson_9 : decode cX12_readPerson 9 = .ok (.iload_n 1, 1) := by decide +kernel
theorem dX12_readPerson_10 : decode cX12_readPerson 10 = .ok (.ireturn, 1) := by decide +kernel
theorem dX12_pairAt_0 : decode cX12_pairAt 0 = .ok (.aload_n 0, 1) := by decide +kernel
theorem dX12_pairAt_1 : decode cX12_pairAt 1 = .ok (.invokevirtual 165, 3) := by decide +kernel
theorem dX12_pairAt_4 : decode cX12_pairAt 4 = .ok (.istore_n 1, 1) := by decide +kernel
theorem dX12_pairAt_5 : decode cX12_pairAt 5 = .ok (.aload_n 0, 1) := by decide +kernel
theorem dX12_pairAt_6 : decode cX12_pairAt 6 = .ok (.invokevirtual 162, 3) := by decide +kernel
theorem dX12_pairAt_9 : decode cX12_pairAt 9 = .ok (.istore_n 2, 1) := by decide +kernel
theorem dX12_pairAt_10 : decode cX12_pairAt 10 = .ok (.aload_n 0, 1) := by decide +kernel
theorem dX12_pairAt_11 : decode cX12_pairAt 11 = .ok (.getfield 71, 3) := by decide +kernel
theorem dX12_pairAt_14 : decode cX12_pairAt 14 = .ok (.iconst 5, 1) := by decide +kernel
theorem dX12_pairAt_15 : decode cX12_pairAt 15 = .ok (.if_icmp .ne 7, 3) := by decide +kernel
theorem dX12_pairAt_18 : decode cX12_pairAt 18 = .ok (.iconst 0, 1) := by decide +kernel
theorem dX12_pairAt_19 : decode cX12_pairAt 19 = .ok (.goto 12, 3) := by decide +kernel
theorem dX12_pairAt_22 : decode cX12_pairAt 22 = .ok (.aload_n 0, 1) := by decide +kernel
theorem dX12_pairAt_23 : decode cX12_pairAt 23 = .ok (.getfield 145, 3) := by decide +kernel
theorem dX12_pairAt_26 : decode cX12_pairAt 26 = .ok (.iload_n 1, 1) := by decide +kernel
theorem dX12_pairAt_27 : decode cX12_pairAt 27 = .ok (.iload_n 2, 1) := by decide +kernel
theorem dX12_pairAt_28 : decode cX12_pairAt 28 = .ok (.invokevirtual 168, 3) := by decide +kernel
theorem dX12_pairAt_31 : decode cX12_pairAt 31 = .ok (.istore_n 3, 1) := by decide +kernel
theorem dX12_pairAt_32 : decode cX12_pairAt 32 = .ok (.iload_n 3, 1) := by decide +kernel
theorem dX12_pairAt_33 : decode cX12_pairAt 33 = .ok (.iconst (-1), 1) := by decide +kernel
theorem dX12_pairAt_34 : decode cX12_pairAt 34 = .ok (.if_icmp .ne 8, 3) := by decide +kernel
theorem dX12_pairAt_37 : decode cX12_pairAt 37 = .ok (.aload_n 0, 1) := by decide +kernel
theorem dX12_pairAt_38 : decode cX12_pairAt 38 = .ok (.iconst 2, 1) := by decide +kernel
theorem dX12_pairAt_39 : decode cX12_pairAt 39 = .ok (.invokevirtual 114, 3) := by decide +kernel
theorem dX12_pairAt_42 : decode cX12_pairAt 42 = .ok (.aload_n 0, 1) := by decide +kernel
theorem dX12_pairAt_43 : decode cX12_pairAt 43 = .ok (.getfield 71, 3) := by decide +kernel
theorem dX12_pairAt_46 : decode cX12_pairAt 46 = .ok (.iconst 5, 1) := by decide +kernel
theorem dX12_pairAt_47 : decode cX12_pairAt 47 = .ok (.if_icmp .ne 7, 3) := by decide +kernel
theorem dX12_pairAt_50 : decode cX12_pairAt 50 = .ok (.iconst 0, 1) := by decide +kernel
theorem dX12_pairAt_51 : decode cX12_pairAt 51 = .ok (.goto 4, 3) := by decide +kernel
theorem dX12_pairAt_54 : decode cX12_pairAt 54 = .ok (.iload_n 3, 1) := by decide +kernel
theorem dX12_pairAt_55 : decode cX12_pairAt 55 = .ok (.ireturn, 1) := by decide +kernel
theorem dX12_readAll_0 : decode cX12_readAll 0 = .ok (.iconst 1, 1) := by decide +kernel
theorem dX12_readAll_1 : decode cX12_readAll 1 = .ok (.istore_n 1, 1) := by decide +kernel
theorem dX12_readAll_2 : decode cX12_readAll 2 = .ok (.iload_n 1, 1) := by decide +kernel
theorem dX12_readAll_3 : decode cX12_readAll 3 = .ok (.ifCond .eq 15, 3) := by decide +kernel
theorem dX12_readAll_6 : decode cX12_readAll 6 = .ok (.aload_n 0, 1) := by decide +kernel
theorem dX12_readAll_7 : decode cX12_readAll 7 = .ok (.invokevirtual 171, 3) := by decide +kernel
theorem dX12_readAll_10 : decode cX12_readAll 10 = .ok (.aload_n 0, 1) := by decide +kernel
theorem dX12_readAll_11 : decode cX12_readAll 11 = .ok (.invokevirtual 174, 3) := by decide +kernel
theorem dX12_readAll_14 : decode cX12_readAll 14 = .ok (.istore_n 1, 1) := by decide +kernel
theorem dX12_readAll_15 : decode cX12_readAll 15 = .ok (.goto (-13), 3) := by decide +kernel
theorem dX12_readAll_18 : decode cX12_readAll 18 = .ok (.aload_n 0, 1) := by decide +kernel
theorem dX12_readAll_19 : decode cX12_readAll 19 = .ok (.getfield 71, 3) := by decide +kernel
theorem dX12_readAll_22 : decode cX12_readAll 22 = .ok (.iconst 1, 1) := by decide +kernel
theorem dX12_readAll_23 : decode cX12_readAll 23 = .ok (.if_icmp .eq 8, 3) := by decide +kernel
theorem dX12_readAll_26 : decode cX12_readAll 26 = .ok (.aload_n 0, 1) := by decide +kernel
theorem dX12_readAll_27 : decode cX12_readAll 27 = .ok (.iconst 1, 1) := by decide +kernel
theorem dX12_readAll_28 : decode cX12_readAll 28 = .ok (.invokevirtual 114, 3) := by decide +kernel
theorem dX12_readAll_31 : decode cX12_readAll 31 = .ok (.aload_n 0, 1) := by decide +kernel
theorem dX12_readAll_32 : decode cX12_readAll 32 = .ok (.getfield 145, 3) := by decide +kernel
theorem dX12_readAll_35 : decode cX12_readAll 35 = .ok (.getfield 177, 3) := by decide +kernel
theorem dX12_readAll_38 : decode cX12_readAll 38 = .ok (.ifCond .ne 9, 3) := by decide +kernel
theorem dX12_readAll_41 : decode cX12_readAll 41 = .ok (.aload_n 0, 1) := by decide +kernel
theorem dX12_readAll_42 : decode cX12_readAll 42 = .ok (.bipush 6, 2) := by decide +kernel
theorem dX12_readAll_44 : decode cX12_readAll 44 = .ok (.invokevirtual 114, 3) := by decide +kernel
theorem dX12_readAll_47 : decode cX12_readAll 47 = .ok (.return_, 1) := by decide +kernel
theorem dX12_readLine_0 : decode cX12_readLine 0 = .ok (.aload_n 0, 1) := by decide +kernel
theorem dX12_readLine_1 : decode cX12_readLine 1 = .ok (.ldc 133, 2) := by decide +kernel
theorem dX12_readLine_3 : decode cX12_readLine 3 = .ok (.invokevirtual 110, 3) := by decide +kernel
theorem dX12_readLine_6 : decode cX12_readLine 6 = .ok (.ifCond .eq 10, 3) := by decide +kernel
theorem dX12_readLine_9 : decode cX12_readLine 9 = .ok (.aload_n 0, 1) := by decide +kernel
theorem dX12_readLine_10 : decode cX12_readLine 10 = .ok (.invokevirtual 180, 3) := by decide +kernel
theorem dX12_readLine_13 : decode cX12_readLine 13 = .ok (.goto 88, 3) := by decide +kernel
theorem dX12_readLine_16 : decode cX12_readLine 16 = .ok (.aload_n 0, 1) := by decide +kernel
theorem dX12_readLine_17 : decode cX12_readLine 17 = .ok (.ldc 135, 2) := by decide +kernel
theorem dX12_readLine_19 : decode cX12_readLine 19 = .ok (.invokevirtual 110, 3) := by decide +kernel
theorem dX12_readLine_22 : decode cX12_readLine 22 = .ok (.ifCond .eq 10, 3) := by decide +kernel
theorem dX12_readLine_25 : decode cX12_readLine 25 = .ok (.aload_n 0, 1) := by decide +kernel
theorem dX12_readLine_26 : decode cX12_readLine 26 = .ok (.invokevirtual 183, 3) := by decide +kernel
theorem dX12_readLine_29 : decode cX12_readLine 29 = .ok (.goto 72, 3) := by decide +kernel
theorem dX12_readLine_32 : decode cX12_readLine 32 = .ok (.aload_n 0, 1) := by decide +kernel
theorem dX12_readLine_33 : decode cX12_readLine 33 = .ok (.ldc 137, 2) := by decide +kernel
theorem dX12_readLine_35 : decode cX12_readLine 35 = .ok (.invokevirtual 110, 3) := by decide +kernel
theorem dX12_readLine_38 : decode cX12_readLine 38 = .ok (.ifCond .eq 10, 3) := by decide +kernel
theorem dX12_readLine_41 : decode cX12_readLine 41 = .ok (.aload_n 0, 1) := by decide +kernel
theorem dX12_readLine_42 : decode cX12_readLine 42 = .ok (.invokevirtual 186, 3) := by decide +kernel
theorem dX12_readLine_45 : decode cX12_readLine 45 = .ok (.goto 56, 3) := by decide +kernel
theorem dX12_readLine_48 : decode cX12_readLine 48 = .ok (.aload_n 0, 1) := by decide +kernel
theorem dX12_readLine_49 : decode cX12_readLine 49 = .ok (.ldc 139, 2) := by decide +kernel
theorem dX12_readLine_51 : decode cX12_readLine 51 = .ok (.invokevirtual 110, 3) := by decide +kernel
theorem dX12_readLine_54 : decode cX12_readLine 54 = .ok (.ifCond .eq 10, 3) := by decide +kernel
theorem dX12_readLine_57 : decode cX12_readLine 57 = .ok (.aload_n 0, 1) := by decide +kernel
theorem dX12_readLine_58 : decode cX12_readLine 58 = .ok (.invokevirtual 189, 3) := by decide +kernel
theorem dX12_readLine_61 : decode cX12_readLine 61 = .ok (.goto 40, 3) := by decide +kernel
theorem dX12_readLine_64 : decode cX12_readLine 64 = .ok (.aload_n 0, 1) := by decide +kernel
theorem dX12_readLine_65 : decode cX12_readLine 65 = .ok (.ldc 141, 2) := by decide +kernel
theorem dX12_readLine_67 : decode cX12_readLine 67 = .ok (.invokevirtual 110, 3) := by decide +kernel
theorem dX12_readLine_70 : decode cX12_readLine 70 = .ok (.ifCond .eq 10, 3) := by decide +kernel
theorem dX12_readLine_73 : decode cX12_readLine 73 = .ok (.aload_n 0, 1) := by decide +kernel
theorem dX12_readLine_74 : decode cX12_readLine 74 = .ok (.invokevirtual 192, 3) := by decide +kernel
theorem dX12_readLine_77 : decode cX12_readLine 77 = .ok (.goto 24, 3) := by decide +kernel
theorem dX12_readLine_80 : decode cX12_readLine 80 = .ok (.aload_n 0, 1) := by decide +kernel
theorem dX12_readLine_81 : decode cX12_readLine 81 = .ok (.ldc 143, 2) := by decide +kernel
theorem dX12_readLine_83 : decode cX12_readLine 83 = .ok (.invokevirtual 110, 3) := by decide +kernel
theorem dX12_readLine_86 : decode cX12_readLine 86 = .ok (.ifCond .eq 10, 3) := by decide +kernel
theorem dX12_readLine_89 : decode cX12_readLine 89 = .ok (.aload_n 0, 1) := by decide +kernel
theorem dX12_readLine_90 : decode cX12_readLine 90 = .ok (.invokevirtual 195, 3) := by decide +kernel
theorem dX12_readLine_93 : decode cX12_readLine 93 = .ok (.goto 8, 3) := by decide +kernel
theorem dX12_readLine_96 : decode cX12_readLine 96 = .ok (.aload_n 0, 1) := by decide +kernel
theorem dX12_readLine_97 : decode cX12_readLine 97 = .ok (.iconst 1, 1) := by decide +kernel
theorem dX12_readLine_98 : decode cX12_readLine 98 = .ok (.invokevirtual 114, 3) := by decide +kernel
theorem dX12_readLine_101 : decode cX12_readLine 101 = .ok (.return_, 1) := by decide +kernel
theorem dX12_readTable_0 : decode cX12_readTable 0 = .ok (.aload_n 0, 1) := by decide +kernel
theorem dX12_readTable_1 : decode cX12_readTable 1 = .ok (.getfield 145, 3) := by decide +kernel
theorem dX12_readTable_4 : decode cX12_readTable 4 = .ok (.getfield 149, 3) := by decide +kernel
theorem dX12_readTable_7 : decode cX12_readTable 7 = .ok (.ifCond .le 8, 3) := by decide +kernel
theorem dX12_readTable_10 : decode cX12_readTable 10 = .ok (.aload_n 0, 1) := by decide +kernel
theorem dX12_readTable_11 : decode cX12_readTable 11 = .ok (.iconst 3, 1) := by decide +kernel
theorem dX12_readTable_12 : decode cX12_readTable 12 = .ok (.invokevirtual 114, 3) := by decide +kernel
theorem dX12_readTable_15 : decode cX12_readTable 15 = .ok (.aload_n 0, 1) := by decide +kernel
theorem dX12_readTable_16 : decode cX12_readTable 16 = .ok (.invokevirtual 107, 3) := by decide +kernel
theorem dX12_readTable_19 : decode cX12_readTable 19 = .ok (.aload_n 0, 1) := by decide +kernel
theorem dX12_readTable_20 : decode cX12_readTable 20 = .ok (.ldc 198, 2) := by decide +kernel
theorem dX12_readTable_22 : decode cX12_readTable 22 = .ok (.iconst 2, 1) := by decide +kernel
theorem dX12_readTable_23 : decode cX12_readTable 23 = .ok (.bipush 10, 2) := by decide +kernel
theorem dX12_readTable_25 : decode cX12_readTable 25 = .ok (.invokevirtual 199, 3) := by decide +kernel
theorem dX12_readTable_28 : decode cX12_readTable 28 = .ok (.istore_n 1, 1) := by decide +kernel
theorem dX12_readTable_29 : decode cX12_readTable 29 = .ok (.aload_n 0, 1) := by decide +kernel
theorem dX12_readTable_30 : decode cX12_readTable 30 = .ok (.ldc 203, 2) := by decide +kernel
theorem dX12_readTable_32 : decode cX12_readTable 32 = .ok (.iconst 0, 1) := by decide +kernel
theorem dX12_readTable_33 : decode cX12_readTable 33 = .ok (.iconst 3, 1) := by decide +kernel
theorem dX12_readTable_34 : decode cX12_readTable 34 = .ok (.invokevirtual 199, 3) := by decide +kernel
theorem dX12_readTable_37 : decode cX12_readTable 37 = .ok (.istore_n 2, 1) := by decide +kernel
theorem dX12_readTable_38 : decode cX12_readTable 38 = .ok (.aload_n 0, 1) := by decide +kernel
theorem dX12_readTable_39 : decode cX12_readTable 39 = .ok (.ldc 205, 2) := by decide +kernel
theorem dX12_readTable_41 : decode cX12_readTable 41 = .ok (.iconst 1, 1) := by decide +kernel
theorem dX12_readTable_42 : decode cX12_readTable 42 = .ok (.bipush 9, 2) := by decide +kernel
theorem dX12_readTable_44 : decode cX12_readTable 44 = .ok (.invokevirtual 199, 3) := by decide +kernel
theorem dX12_readTable_47 : decode cX12_readTable 47 = .ok (.istore_n 3, 1) := by decide +kernel
theorem dX12_readTable_48 : decode cX12_readTable 48 = .ok (.aload_n 0, 1) := by decide +kernel
theorem dX12_readTable_49 : decode cX12_readTable 49 = .ok (.ldc 207, 2) := by decide +kernel
theorem dX12_readTable_51 : decode cX12_readTable 51 = .ok (.iconst 0, 1) := by decide +kernel
theorem dX12_readTable_52 : decode cX12_readTable 52 = .ok (.bipush 100, 2) := by decide +kernel
theorem dX12_readTable_54 : decode cX12_readTable 54 = .ok (.invokevirtual 199, 3) := by decide +kernel
theorem dX12_readTable_57 : decode cX12_readTable 57 = .ok (.istore 4, 2) := by decide +kernel
theorem dX12_readTable_59 : decode cX12_readTable 59 = .ok (.aload_n 0, 1) := by decide +kernel
theorem dX12_readTable_60 : decode cX12_readTable 60 = .ok (.getfield 71, 3) := by decide +kernel
theorem dX12_readTable_63 : decode cX12_readTable 63 = .ok (.iconst 5, 1) := by decide +kernel
theorem dX12_readTable_64 : decode cX12_readTable 64 = .ok (.if_icmp .ne 4, 3) := by decide +kernel
theorem dX12_readTable_67 : decode cX12_readTable 67 = .ok (.return_, 1) := by decide +kernel
theorem dX12_readTable_68 : decode cX12_readTable 68 = .ok (.aload_n 0, 1) := by decide +kernel
theorem dX12_readTable_69 : decode cX12_readTable 69 = .ok (.getfield 145, 3) := by decide +kernel
theorem dX12_readTable_72 : decode cX12_readTable 72 = .ok (.iload_n 1, 1) := by decide +kernel
theorem dX12_readTable_73 : decode cX12_readTable 73 = .ok (.putfield 149, 3) := by decide +kernel
theorem dX12_readTable_76 : decode cX12_readTable 76 = .ok (.aload_n 0, 1) := by decide +kernel
theorem dX12_readTable_77 : decode cX12_readTable 77 = .ok (.getfield 145, 3) := by decide +kernel
theorem dX12_readTable_80 : decode cX12_readTable 80 = .ok (.iload_n 2, 1) := by decide +kernel
theorem dX12_readTable_81 : decode cX12_readTable 81 = .ok (.putfield 209, 3) := by decide +kernel
theorem dX12_readTable_84 : decode cX12_readTable 84 = .ok (.aload_n 0, 1) := by decide +kernel
theorem dX12_readTable_85 : decode cX12_readTable 85 = .ok (.getfield 145, 3) := by decide +kernel
theorem dX12_readTable_88 : decode cX12_readTable 88 = .ok (.iload_n 3, 1) := by decide +kernel
theorem dX12_readTable_89 : decode cX12_readTable 89 = .ok (.putfield 211, 3) := by decide +kernel
theorem dX12_readTable_92 : decode cX12_readTable 92 = .ok (.aload_n 0, 1) := by decide +kernel
theorem dX12_readTable_93 : decode cX12_readTable 93 = .ok (.getfield 145, 3) := by decide +kernel
theorem dX12_readTable_96 : decode cX12_readTable 96 = .ok (.iload 4, 2) := by decide +kernel
theorem dX12_readTable_98 : decode cX12_readTable 98 = .ok (.putfield 213, 3) := by decide +kernel
theorem dX12_readTable_101 : decode cX12_readTable 101 = .ok (.return_, 1) := by decide +kernel
theorem dX12_readOne_0 : decode cX12_readOne 0 = .ok (.aload_n 0, 1) := by decide +kernel
theorem dX12_readOne_1 : decode cX12_readOne 1 = .ok (.aload_n 0, 1) := by decide +kernel
theorem dX12_readOne_2 : decode cX12_readOne 2 = .ok (.getfield 145, 3) := by decide +kernel
theorem dX12_readOne_5 : decode cX12_readOne 5 = .ok (.getfield 177, 3) := by decide +kernel
theorem dX12_readOne_8 : decode cX12_readOne 8 = .ok (.iconst 5, 1) := by decide +kernel
theorem dX12_readOne_9 : decode cX12_readOne 9 = .ok (.invokevirtual 215, 3) := by decide +kernel
theorem dX12_readOne_12 : decode cX12_readOne 12 = .ok (.aload_n 0, 1) := by decide +kernel
theorem dX12_readOne_13 : decode cX12_readOne 13 = .ok (.invokevirtual 154, 3) := by decide +kernel
theorem dX12_readOne_16 : decode cX12_readOne 16 = .ok (.ifCond .ne 8, 3) := by decide +kernel
theorem dX12_readOne_19 : decode cX12_readOne 19 = .ok (.aload_n 0, 1) := by decide +kernel
theorem dX12_readOne_20 : decode cX12_readOne 20 = .ok (.iconst 1, 1) := by decide +kernel
theorem dX12_readOne_21 : decode cX12_readOne 21 = .ok (.invokevirtual 114, 3) := by decide +kernel
theorem dX12_readOne_24 : decode cX12_readOne 24 = .ok (.aload_n 0, 1) := by decide +kernel
theorem dX12_readOne_25 : decode cX12_readOne 25 = .ok (.getfield 145, 3) := by decide +kernel
theorem dX12_readOne_28 : decode cX12_readOne 28 = .ok (.aload_n 0, 1) := by decide +kernel
theorem dX12_readOne_29 : decode cX12_readOne 29 = .ok (.getfield 87, 3) := by decide +kernel
theorem dX12_readOne_32 : decode cX12_readOne 32 = .ok (.invokevirtual 158, 3) := by decide +kernel
theorem dX12_readOne_35 : decode cX12_readOne 35 = .ok (.iconst (-1), 1) := by decide +kernel
theorem dX12_readOne_36 : decode cX12_readOne 36 = .ok (.if_icmp .eq 8, 3) := by decide +kernel
theorem dX12_readOne_39 : decode cX12_readOne 39 = .ok (.aload_n 0, 1) := by decide +kernel
theorem dX12_readOne_40 : decode cX12_readOne 40 = .ok (.iconst 3, 1) := by decide +kernel
theorem dX12_readOne_41 : decode cX12_readOne 41 = .ok (.invokevirtual 114, 3) := by decide +kernel
theorem dX12_readOne_44 : decode cX12_readOne 44 = .ok (.aload_n 0, 1) := by decide +kernel
theorem dX12_readOne_45 : decode cX12_readOne 45 = .ok (.getfield 87, 3) := by decide +kernel
theorem dX12_readOne_48 : decode cX12_readOne 48 = .ok (.lstore_n 1, 1) := by decide +kernel
theorem dX12_readOne_49 : decode cX12_readOne 49 = .ok (.aload_n 0, 1) := by decide +kernel
theorem dX12_readOne_50 : decode cX12_readOne 50 = .ok (.invokevirtual 107, 3) := by decide +kernel
theorem dX12_readOne_53 : decode cX12_readOne 53 = .ok (.aload_n 0, 1) := by decide +kernel
theorem dX12_readOne_54 : decode cX12_readOne 54 = .ok (.ldc 219, 2) := by decide +kernel
theorem dX12_readOne_56 : decode cX12_readOne 56 = .ok (.invokevirtual 126, 3) := by decide +kernel
theorem dX12_readOne_59 : decode cX12_readOne 59 = .ok (.aload_n 0, 1) := by decide +kernel
theorem dX12_readOne_60 : decode cX12_readOne 60 = .ok (.iconst 0, 1) := by decide +kernel
theorem dX12_readOne_61 : decode cX12_readOne 61 = .ok (.aload_n 0, 1) := by decide +kernel
theorem dX12_readOne_62 : decode cX12_readOne 62 = .ok (.getfield 145, 3) := by decide +kernel
theorem dX12_readOne_65 : decode cX12_readOne 65 = .ok (.getfield 149, 3) := by decide +kernel
theorem dX12_readOne_68 : decode cX12_readOne 68 = .ok (.iconst 1, 1) := by decide +kernel
theorem dX12_readOne_69 : decode cX12_readOne 69 = .ok (.isub, 1) := by decide +kernel
theorem dX12_readOne_70 : decode cX12_readOne 70 = .ok (.invokevirtual 122, 3) := by decide +kernel
theorem dX12_readOne_73 : decode cX12_readOne 73 = .ok (.istore_n 3, 1) := by decide +kernel
theorem dX12_readOne_74 : decode cX12_readOne 74 = .ok (.aload_n 0, 1) := by decide +kernel
theorem dX12_readOne_75 : decode cX12_readOne 75 = .ok (.getfield 71, 3) := by decide +kernel
theorem dX12_readOne_78 : decode cX12_readOne 78 = .ok (.iconst 5, 1) := by decide +kernel
theorem dX12_readOne_79 : decode cX12_readOne 79 = .ok (.if_icmp .eq 19, 3) := by decide +kernel
theorem dX12_readOne_82 : decode cX12_readOne 82 = .ok (.aload_n 0, 1) := by decide +kernel
theorem dX12_readOne_83 : decode cX12_readOne 83 = .ok (.getfield 145, 3) := by decide +kernel
theorem dX12_readOne_86 : decode cX12_readOne 86 = .ok (.iload_n 3, 1) := by decide +kernel
theorem dX12_readOne_87 : decode cX12_readOne 87 = .ok (.invokevirtual 221, 3) := by decide +kernel
theorem dX12_readOne_90 : decode cX12_readOne 90 = .ok (.ifCond .eq 8, 3) := by decide +kernel
theorem dX12_readOne_93 : decode cX12_readOne 93 = .ok (.aload_n 0, 1) := by decide +kernel
theorem dX12_readOne_94 : decode cX12_readOne 94 = .ok (.iconst 3, 1) := by decide +kernel
theorem dX12_readOne_95 : decode cX12_readOne 95 = .ok (.invokevirtual 114, 3) := by decide +kernel
theorem dX12_readOne_98 : decode cX12_readOne 98 = .ok (.aload_n 0, 1) := by decide +kernel
theorem dX12_readOne_99 : decode cX12_readOne 99 = .ok (.invokevirtual 107, 3) := by decide +kernel
theorem dX12_readOne_102 : decode cX12_readOne 102 = .ok (.aload_n 0, 1) := by decide +kernel
theorem dX12_readOne_103 : decode cX12_readOne 103 = .ok (.getfield 71, 3) := by decide +kernel
theorem dX12_readOne_106 : decode cX12_readOne 106 = .ok (.iconst 5, 1) := by decide +kernel
theorem dX12_readOne_107 : decode cX12_readOne 107 = .ok (.if_icmp .ne 4, 3) := by decide +kernel
theorem dX12_readOne_110 : decode cX12_readOne 110 = .ok (.return_, 1) := by decide +kernel
theorem dX12_readOne_111 : decode cX12_readOne 111 = .ok (.aload_n 0, 1) := by decide +kernel
theorem dX12_readOne_112 : decode cX12_readOne 112 = .ok (.getfield 145, 3) := by decide +kernel
theorem dX12_readOne_115 : decode cX12_readOne 115 = .ok (.getfield 224, 3) := by decide +kernel
theorem dX12_readOne_118 : decode cX12_readOne 118 = .ok (.aload_n 0, 1) := by decide +kernel
theorem dX12_readOne_119 : decode cX12_readOne 119 = .ok (.getfield 145, 3) := by decide +kernel
theorem dX12_readOne_122 : decode cX12_readOne 122 = .ok (.getfield 177, 3) := by decide +kernel
theorem dX12_readOne_125 : decode cX12_readOne 125 = .ok (.lload_n 1, 1) := by decide +kernel
theorem dX12_readOne_126 : decode cX12_readOne 126 = .ok (.lastore, 1) := by decide +kernel
theorem dX12_readOne_127 : decode cX12_readOne 127 = .ok (.aload_n 0, 1) := by decide +kernel
theorem dX12_readOne_128 : decode cX12_readOne 128 = .ok (.getfield 145, 3) := by decide +kernel
theorem dX12_readOne_131 : decode cX12_readOne 131 = .ok (.getfield 228, 3) := by decide +kernel
theorem dX12_readOne_134 : decode cX12_readOne 134 = .ok (.aload_n 0, 1) := by decide +kernel
theorem dX12_readOne_135 : decode cX12_readOne 135 = .ok (.getfield 145, 3) := by decide +kernel
theorem dX12_readOne_138 : decode cX12_readOne 138 = .ok (.getfield 177, 3) := by decide +kernel
theorem dX12_readOne_141 : decode cX12_readOne 141 = .ok (.iload_n 3, 1) := by decide +kernel
theorem dX12_readOne_142 : decode cX12_readOne 142 = .ok (.iastore, 1) := by decide +kernel
theorem dX12_readOne_143 : decode cX12_readOne 143 = .ok (.aload_n 0, 1) := by decide +kernel
theorem dX12_readOne_144 : decode cX12_readOne 144 = .ok (.getfield 145, 3) := by decide +kernel
theorem dX12_readOne_147 : decode cX12_readOne 147 = .ok (.dup, 1) := by decide +kernel
theorem dX12_readOne_148 : decode cX12_readOne 148 = .ok (.getfield 177, 3) := by decide +kernel
theorem dX12_readOne_151 : decode cX12_readOne 151 = .ok (.iconst 1, 1) := by decide +kernel
theorem dX12_readOne_152 : decode cX12_readOne 152 = .ok (.iadd, 1) := by decide +kernel
theorem dX12_readOne_153 : decode cX12_readOne 153 = .ok (.putfield 177, 3) := by decide +kernel
theorem dX12_readOne_156 : decode cX12_readOne 156 = .ok (.return_, 1) := by decide +kernel
theorem dX12_readFork_0 : decode cX12_readFork 0 = .ok (.aload_n 0, 1) := by decide +kernel
theorem dX12_readFork_1 : decode cX12_readFork 1 = .ok (.aload_n 0, 1) := by decide +kernel
theorem dX12_readFork_2 : decode cX12_readFork 2 = .ok (.getfield 145, 3) := by decide +kernel
theorem dX12_readFork_5 : decode cX12_readFork 5 = .ok (.getfield 231, 3) := by decide +kernel
theorem dX12_readFork_8 : decode cX12_readFork 8 = .ok (.invokestatic 234, 3) := by decide +kernel
theorem dX12_readFork_11 : decode cX12_readFork 11 = .ok (.iconst 4, 1) := by decide +kernel
theorem dX12_readFork_12 : decode cX12_readFork 12 = .ok (.invokevirtual 215, 3) := by decide +kernel
theorem dX12_readFork_15 : decode cX12_readFork 15 = .ok (.aload_n 0, 1) := by decide +kernel
theorem dX12_readFork_16 : decode cX12_readFork 16 = .ok (.iconst 0, 1) := by decide +kernel
theorem dX12_readFork_17 : decode cX12_readFork 17 = .ok (.aload_n 0, 1) := by decide +kernel
theorem dX12_readFork_18 : decode cX12_readFork 18 = .ok (.getfield 145, 3) := by decide +kernel
theorem dX12_readFork_21 : decode cX12_readFork 21 = .ok (.getfield 149, 3) := by decide +kernel
theorem dX12_readFork_24 : decode cX12_readFork 24 = .ok (.iconst 1, 1) := by decide +kernel
theorem dX12_readFork_25 : decode cX12_readFork 25 = .ok (.isub, 1) := by decide +kernel
theorem dX12_readFork_26 : decode cX12_readFork 26 = .ok (.invokevirtual 122, 3) := by decide +kernel
theorem dX12_readFork_29 : decode cX12_readFork 29 = .ok (.istore_n 1, 1) := by decide +kernel
theorem dX12_readFork_30 : decode cX12_readFork 30 = .ok (.aload_n 0, 1) := by decide +kernel
theorem dX12_readFork_31 : decode cX12_readFork 31 = .ok (.getfield 71, 3) := by decide +kernel
theorem dX12_readFork_34 : decode cX12_readFork 34 = .ok (.iconst 5, 1) := by decide +kernel
theorem dX12_readFork_35 : decode cX12_readFork 35 = .ok (.if_icmp .eq 22, 3) := by decide +kernel
theorem dX12_readFork_38 : decode cX12_readFork 38 = .ok (.aload_n 0, 1) := by decide +kernel
theorem dX12_readFork_39 : decode cX12_readFork 39 = .ok (.getfield 145, 3) := by decide +kernel
theorem dX12_readFork_42 : decode cX12_readFork 42 = .ok (.getfield 231, 3) := by decide +kernel
theorem dX12_readFork_45 : decode cX12_readFork 45 = .ok (.iload_n 1, 1) := by decide +kernel
theorem dX12_readFork_46 : decode cX12_readFork 46 = .ok (.invokestatic 237, 3) := by decide +kernel
theorem dX12_readFork_49 : decode cX12_readFork 49 = .ok (.ifCond .eq 8, 3) := by decide +kernel
theorem dX12_readFork_52 : decode cX12_readFork 52 = .ok (.aload_n 0, 1) := by decide +kernel
theorem dX12_readFork_53 : decode cX12_readFork 53 = .ok (.iconst 3, 1) := by decide +kernel
theorem dX12_readFork_54 : decode cX12_readFork 54 = .ok (.invokevirtual 114, 3) := by decide +kernel
theorem dX12_readFork_57 : decode cX12_readFork 57 = .ok (.aload_n 0, 1) := by decide +kernel
theorem dX12_readFork_58 : decode cX12_readFork 58 = .ok (.invokevirtual 107, 3) := by decide +kernel
theorem dX12_readFork_61 : decode cX12_readFork 61 = .ok (.aload_n 0, 1) := by decide +kernel
theorem dX12_readFork_62 : decode cX12_readFork 62 = .ok (.getfield 71, 3) := by decide +kernel
theorem dX12_readFork_65 : decode cX12_readFork 65 = .ok (.iconst 5, 1) := by decide +kernel
theorem dX12_readFork_66 : decode cX12_readFork 66 = .ok (.if_icmp .eq 18, 3) := by decide +kernel
theorem dX12_readFork_69 : decode cX12_readFork 69 = .ok (.aload_n 0, 1) := by decide +kernel
theorem dX12_readFork_70 : decode cX12_readFork 70 = .ok (.getfield 145, 3) := by decide +kernel
theorem dX12_readFork_73 : decode cX12_readFork 73 = .ok (.dup, 1) := by decide +kernel
theorem dX12_readFork_74 : decode cX12_readFork 74 = .ok (.getfield 231, 3) := by decide +kernel
theorem dX12_readFork_77 : decode cX12_readFork 77 = .ok (.iconst 1, 1) := by decide +kernel
theorem dX12_readFork_78 : decode cX12_readFork 78 = .ok (.iload_n 1, 1) := by decide +kernel
theorem dX12_readFork_79 : decode cX12_readFork 79 = .ok (.ishl, 1) := by decide +kernel
theorem dX12_readFork_80 : decode cX12_readFork 80 = .ok (.ior, 1) := by decide +kernel
theorem dX12_readFork_81 : decode cX12_readFork 81 = .ok (.putfield 231, 3) := by decide +kernel
theorem dX12_readFork_84 : decode cX12_readFork 84 = .ok (.return_, 1) := by decide +kernel
theorem dX12_readKnown_0 : decode cX12_readKnown 0 = .ok (.aload_n 0, 1) := by decide +kernel
theorem dX12_readKnown_1 : decode cX12_readKnown 1 = .ok (.aload_n 0, 1) := by decide +kernel
theorem dX12_readKnown_2 : decode cX12_readKnown 2 = .ok (.getfield 145, 3) := by decide +kernel
theorem dX12_readKnown_5 : decode cX12_readKnown 5 = .ok (.getfield 241, 3) := by decide +kernel
theorem dX12_readKnown_8 : decode cX12_readKnown 8 = .ok (.bipush 10, 2) := by decide +kernel
theorem dX12_readKnown_10 : decode cX12_readKnown 10 = .ok (.invokevirtual 215, 3) := by decide +kernel
theorem dX12_readKnown_13 : decode cX12_readKnown 13 = .ok (.aload_n 0, 1) := by decide +kernel
theorem dX12_readKnown_14 : decode cX12_readKnown 14 = .ok (.invokevirtual 165, 3) := by decide +kernel
theorem dX12_readKnown_17 : decode cX12_readKnown 17 = .ok (.istore_n 1, 1) := by decide +kernel
theorem dX12_readKnown_18 : decode cX12_readKnown 18 = .ok (.aload_n 0, 1) := by decide +kernel
theorem dX12_readKnown_19 : decode cX12_readKnown 19 = .ok (.invokevirtual 162, 3) := by decide +kernel
theorem dX12_readKnown_22 : decode cX12_readKnown 22 = .ok (.istore_n 2, 1) := by decide +kernel
theorem dX12_readKnown_23 : decode cX12_readKnown 23 = .ok (.aload_n 0, 1) := by decide +kernel
theorem dX12_readKnown_24 : decode cX12_readKnown 24 = .ok (.getfield 71, 3) := by decide +kernel
theorem dX12_readKnown_27 : decode cX12_readKnown 27 = .ok (.iconst 5, 1) := by decide +kernel
theorem dX12_readKnown_28 : decode cX12_readKnown 28 = .ok (.if_icmp .eq 26, 3) := by decide +kernel
theorem dX12_readKnown_31 : decode cX12_readKnown 31 = .ok (.iload_n 1, 1) := by decide +kernel
theorem dX12_readKnown_32 : decode cX12_readKnown 32 = .ok (.iload_n 2, 1) := by decide +kernel
theorem dX12_readKnown_33 : decode cX12_readKnown 33 = .ok (.if_icmp .eq 16, 3) := by decide +kernel
theorem dX12_readKnown_36 : decode cX12_readKnown 36 = .ok (.aload_n 0, 1) := by decide +kernel
theorem dX12_readKnown_37 : decode cX12_readKnown 37 = .ok (.getfield 145, 3) := by decide +kernel
theorem dX12_readKnown_40 : decode cX12_readKnown 40 = .ok (.iload_n 1, 1) := by decide +kernel
theorem dX12_readKnown_41 : decode cX12_readKnown 41 = .ok (.iload_n 2, 1) := by decide +kernel
theorem dX12_readKnown_42 : decode cX12_readKnown 42 = .ok (.invokevirtual 168, 3) := by decide +kernel
theorem dX12_readKnown_45 : decode cX12_readKnown 45 = .ok (.iconst (-1), 1) := by decide +kernel
theorem dX12_readKnown_46 : decode cX12_readKnown 46 = .ok (.if_icmp .eq 8, 3) := by decide +kernel
theorem dX12_readKnown_49 : decode cX12_readKnown 49 = .ok (.aload_n 0, 1) := by decide +kernel
theorem dX12_readKnown_50 : decode cX12_readKnown 50 = .ok (.iconst 3, 1) := by decide +kernel
theorem dX12_readKnown_51 : decode cX12_readKnown 51 = .ok (.invokevirtual 114, 3) := by decide +kernel
theorem dX12_readKnown_54 : decode cX12_readKnown 54 = .ok (.aload_n 0, 1) := by decide +kernel
theorem dX12_readKnown_55 : decode cX12_readKnown 55 = .ok (.invokevirtual 107, 3) := by decide +kernel
theorem dX12_readKnown_58 : decode cX12_readKnown 58 = .ok (.aload_n 0, 1) := by decide +kernel
theorem dX12_readKnown_59 : decode cX12_readKnown 59 = .ok (.ldc 244, 2) := by decide +kernel
theorem dX12_readKnown_61 : decode cX12_readKnown 61 = .ok (.iconst 0, 1) := by decide +kernel
theorem dX12_readKnown_62 : decode cX12_readKnown 62 = .ok (.bipush 99, 2) := by decide +kernel
theorem dX12_readKnown_64 : decode cX12_readKnown 64 = .ok (.invokevirtual 199, 3) := by decide +kernel
theorem dX12_readKnown_67 : decode cX12_readKnown 67 = .ok (.istore_n 3, 1) := by decide +kernel
theorem dX12_readKnown_68 : decode cX12_readKnown 68 = .ok (.aload_n 0, 1) := by decide +kernel
theorem dX12_readKnown_69 : decode cX12_readKnown 69 = .ok (.ldc 246, 2) := by decide +kernel
theorem dX12_readKnown_71 : decode cX12_readKnown 71 = .ok (.invokevirtual 110, 3) := by decide +kernel
theorem dX12_readKnown_74 : decode cX12_readKnown 74 = .ok (.ifCond .eq 7, 3) := by decide +kernel
theorem dX12_readKnown_77 : decode cX12_readKnown 77 = .ok (.iconst 0, 1) := by decide +kernel
theorem dX12_readKnown_78 : decode cX12_readKnown 78 = .ok (.goto 30, 3) := by decide +kernel
theorem dX12_readKnown_81 : decode cX12_readKnown 81 = .ok (.aload_n 0, 1) := by decide +kernel
theorem dX12_readKnown_82 : decode cX12_readKnown 82 = .ok (.ldc 248, 2) := by decide +kernel
theorem dX12_readKnown_84 : decode cX12_readKnown 84 = .ok (.invokevirtual 110, 3) := by decide +kernel
theorem dX12_readKnown_87 : decode cX12_readKnown 87 = .ok (.ifCond .eq 7, 3) := by decide +kernel
theorem dX12_readKnown_90 : decode cX12_readKnown 90 = .ok (.iconst 1, 1) := by decide +kernel
theorem dX12_readKnown_91 : decode cX12_readKnown 91 = .ok (.goto 17, 3) := by decide +kernel
theorem dX12_readKnown_94 : decode cX12_readKnown 94 = .ok (.aload_n 0, 1) := by decide +kernel
theorem dX12_readKnown_95 : decode cX12_readKnown 95 = .ok (.ldc 250, 2) := by decide +kernel
theorem dX12_readKnown_97 : decode cX12_readKnown 97 = .ok (.invokevirtual 110, 3) := by decide +kernel
theorem dX12_readKnown_100 : decode cX12_readKnown 100 = .ok (.ifCond .eq 7, 3) := by decide +kernel
theorem dX12_readKnown_103 : decode cX12_readKnown 103 = .ok (.iconst 2, 1) := by decide +kernel
theorem dX12_readKnown_104 : decode cX12_readKnown 104 = .ok (.goto 4, 3) := by decide +kernel
theorem dX12_readKnown_107 : decode cX12_readKnown 107 = .ok (.iconst (-1), 1) := by decide +kernel
theorem dX12_readKnown_108 : decode cX12_readKnown 108 = .ok (.istore 4, 2) := by decide +kernel
theorem dX12_readKnown_110 : decode cX12_readKnown 110 = .ok (.iload 4, 2) := by decide +kernel
theorem dX12_readKnown_112 : decode cX12_readKnown 112 = .ok (.iconst (-1), 1) := by decide +kernel
theorem dX12_readKnown_113 : decode cX12_readKnown 113 = .ok (.if_icmp .ne 8, 3) := by decide +kernel
theorem dX12_readKnown_116 : decode cX12_readKnown 116 = .ok (.aload_n 0, 1) := by decide +kernel
theorem dX12_readKnown_117 : decode cX12_readKnown 117 = .ok (.iconst 1, 1) := by decide +kernel
theorem dX12_readKnown_118 : decode cX12_readKnown 118 = .ok (.invokevirtual 114, 3) := by decide +kernel
theorem dX12_readKnown_121 : decode cX12_readKnown 121 = .ok (.aload_n 0, 1) := by decide +kernel
theorem dX12_readKnown_122 : decode cX12_readKnown 122 = .ok (.invokevirtual 107, 3) := by decide +kernel
theorem dX12_readKnown_125 : decode cX12_readKnown 125 = .ok (.aload_n 0, 1) := by decide +kernel
theorem dX12_readKnown_126 : decode cX12_readKnown 126 = .ok (.getfield 71, 3) := by decide +kernel
theorem dX12_readKnown_129 : decode cX12_readKnown 129 = .ok (.iconst 5, 1) := by decide +kernel
theorem dX12_readKnown_130 : decode cX12_readKnown 130 = .ok (.if_icmp .ne 4, 3) := by decide +kernel
theorem dX12_readKnown_133 : decode cX12_readKnown 133 = .ok (.return_, 1) := by decide +kernel
theorem dX12_readKnown_134 : decode cX12_readKnown 134 = .ok (.aload_n 0, 1) := by decide +kernel
theorem dX12_readKnown_135 : decode cX12_readKnown 135 = .ok (.getfield 145, 3) := by decide +kernel
theorem dX12_readKnown_138 : decode cX12_readKnown 138 = .ok (.getfield 252, 3) := by decide +kernel
theorem dX12_readKnown_141 : decode cX12_readKnown 141 = .ok (.aload_n 0, 1) := by decide +kernel
theorem dX12_readKnown_142 : decode cX12_readKnown 142 = .ok (.getfield 145, 3) := by decide +kernel
theorem dX12_readKnown_145 : decode cX12_readKnown 145 = .ok (.getfield 241, 3) := by decide +kernel
theorem dX12_readKnown_148 : decode cX12_readKnown 148 = .ok (.iload_n 1, 1) := by decide +kernel
theorem dX12_readKnown_149 : decode cX12_readKnown 149 = .ok (.iastore, 1) := by decide +kernel
theorem dX12_readKnown_150 : decode cX12_readKnown 150 = .ok (.aload_n 0, 1) := by decide +kernel
theorem dX12_readKnown_151 : decode cX12_readKnown 151 = .ok (.getfield 145, 3) := by decide +kernel
theorem dX12_readKnown_154 : decode cX12_readKnown 154 = .ok (.getfield 255, 3) := by decide +kernel
theorem dX12_readKnown_157 : decode cX12_readKnown 157 = .ok (.aload_n 0, 1) := by decide +kernel
theorem dX12_readKnown_158 : decode cX12_readKnown 158 = .ok (.getfield 145, 3) := by decide +kernel
theorem dX12_readKnown_161 : decode cX12_readKnown 161 = .ok (.getfield 241, 3) := by decide +kernel
theorem dX12_readKnown_164 : decode cX12_readKnown 164 = .ok (.iload_n 2, 1) := by decide +kernel
theorem dX12_readKnown_165 : decode cX12_readKnown 165 = .ok (.iastore, 1) := by decide +kernel
theorem dX12_readKnown_166 : decode cX12_readKnown 166 = .ok (.aload_n 0, 1) := by decide +kernel
theorem dX12_readKnown_167 : decode cX12_readKnown 167 = .ok (.getfield 145, 3) := by decide +kernel
theorem dX12_readKnown_170 : decode cX12_readKnown 170 = .ok (.getfield 258, 3) := by decide +kernel
theorem dX12_readKnown_173 : decode cX12_readKnown 173 = .ok (.aload_n 0, 1) := by decide +kernel
theorem dX12_readKnown_174 : decode cX12_readKnown 174 = .ok (.getfield 145, 3) := by decide +kernel
theorem dX12_readKnown_177 : decode cX12_readKnown 177 = .ok (.getfield 241, 3) := by decide +kernel
theorem dX12_readKnown_180 : decode cX12_readKnown 180 = .ok (.iload_n 3, 1) := by decide +kernel
theorem dX12_readKnown_181 : decode cX12_readKnown 181 = .ok (.iastore, 1) := by decide +kernel
theorem dX12_readKnown_182 : decode cX12_readKnown 182 = .ok (.aload_n 0, 1) := by decide +kernel
theorem dX12_readKnown_183 : decode cX12_readKnown 183 = .ok (.getfield 145, 3) := by decide +kernel
theorem dX12_readKnown_186 : decode cX12_readKnown 186 = .ok (.getfield 260, 3) := by decide +kernel
theorem dX12_readKnown_189 : decode cX12_readKnown 189 = .ok (.aload_n 0, 1) := by decide +kernel
theorem dX12_readKnown_190 : decode cX12_readKnown 190 = .ok (.getfield 145, 3) := by decide +kernel
theorem dX12_readKnown_193 : decode cX12_readKnown 193 = .ok (.getfield 241, 3) := by decide +kernel
theorem dX12_readKnown_196 : decode cX12_readKnown 196 = .ok (.iload 4, 2) := by decide +kernel
theorem dX12_readKnown_198 : decode cX12_readKnown 198 = .ok (.iastore, 1) := by decide +kernel
theorem dX12_readKnown_199 : decode cX12_readKnown 199 = .ok (.aload_n 0, 1) := by decide +kernel
theorem dX12_readKnown_200 : decode cX12_readKnown 200 = .ok (.getfield 145, 3) := by decide +kernel
theorem dX12_readKnown_203 : decode cX12_readKnown 203 = .ok (.dup, 1) := by decide +kernel
theorem dX12_readKnown_204 : decode cX12_readKnown 204 = .ok (.getfield 241, 3) := by decide +kernel
theorem dX12_readKnown_207 : decode cX12_readKnown 207 = .ok (.iconst 1, 1) := by decide +kernel
theorem dX12_readKnown_208 : decode cX12_readKnown 208 = .ok (.iadd, 1) := by decide +kernel
theorem dX12_readKnown_209 : decode cX12_readKnown 209 = .ok (.putfield 241, 3) := by decide +kernel
theorem dX12_readKnown_212 : decode cX12_readKnown 212 = .ok (.return_, 1) := by decide +kernel
theorem dX12_readUnsure_0 : decode cX12_readUnsure 0 = .ok (.aload_n 0, 1) := by decide +kernel
theorem dX12_readUnsure_1 : decode cX12_readUnsure 1 = .ok (.aload_n 0, 1) := by decide +kernel
theorem dX12_readUnsure_2 : decode cX12_readUnsure 2 = .ok (.getfield 145, 3) := by decide +kernel
theorem dX12_readUnsure_5 : decode cX12_readUnsure 5 = .ok (.getfield 263, 3) := by decide +kernel
theorem dX12_readUnsure_8 : decode cX12_readUnsure 8 = .ok (.iconst 4, 1) := by decide +kernel
theorem dX12_readUnsure_9 : decode cX12_readUnsure 9 = .ok (.invokevirtual 215, 3) := by decide +kernel
theorem dX12_readUnsure_12 : decode cX12_readUnsure 12 = .ok (.aload_n 0, 1) := by decide +kernel
theorem dX12_readUnsure_13 : decode cX12_readUnsure 13 = .ok (.invokevirtual 266, 3) := by decide +kernel
theorem dX12_readUnsure_16 : decode cX12_readUnsure 16 = .ok (.istore_n 1, 1) := by decide +kernel
theorem dX12_readUnsure_17 : decode cX12_readUnsure 17 = .ok (.aload_n 0, 1) := by decide +kernel
theorem dX12_readUnsure_18 : decode cX12_readUnsure 18 = .ok (.getfield 71, 3) := by decide +kernel
theorem dX12_readUnsure_21 : decode cX12_readUnsure 21 = .ok (.iconst 5, 1) := by decide +kernel
theorem dX12_readUnsure_22 : decode cX12_readUnsure 22 = .ok (.if_icmp .eq 19, 3) := by decide +kernel
theorem dX12_readUnsure_25 : decode cX12_readUnsure 25 = .ok (.aload_n 0, 1) := by decide +kernel
theorem dX12_readUnsure_26 : decode cX12_readUnsure 26 = .ok (.getfield 145, 3) := by decide +kernel
theorem dX12_readUnsure_29 : decode cX12_readUnsure 29 = .ok (.iload_n 1, 1) := by decide +kernel
theorem dX12_readUnsure_30 : decode cX12_readUnsure 30 = .ok (.invokevirtual 269, 3) := by decide +kernel
theorem dX12_readUnsure_33 : decode cX12_readUnsure 33 = .ok (.ifCond .eq 8, 3) := by decide +kernel
theorem dX12_readUnsure_36 : decode cX12_readUnsure 36 = .ok (.aload_n 0, 1) := by decide +kernel
theorem dX12_readUnsure_37 : decode cX12_readUnsure 37 = .ok (.iconst 3, 1) := by decide +kernel
theorem dX12_readUnsure_38 : decode cX12_readUnsure 38 = .ok (.invokevirtual 114, 3) := by decide +kernel
theorem dX12_readUnsure_41 : decode cX12_readUnsure 41 = .ok (.aload_n 0, 1) := by decide +kernel
theorem dX12_readUnsure_42 : decode cX12_readUnsure 42 = .ok (.invokevirtual 107, 3) := by decide +kernel
theorem dX12_readUnsure_45 : decode cX12_readUnsure 45 = .ok (.aload_n 0, 1) := by decide +kernel
theorem dX12_readUnsure_46 : decode cX12_readUnsure 46 = .ok (.iconst 0, 1) := by decide +kernel
theorem dX12_readUnsure_47 : decode cX12_readUnsure 47 = .ok (.bipush 99, 2) := by decide +kernel
theorem dX12_readUnsure_49 : decode cX12_readUnsure 49 = .ok (.invokevirtual 130, 3) := by decide +kernel
theorem dX12_readUnsure_52 : decode cX12_readUnsure 52 = .ok (.istore_n 2, 1) := by decide +kernel
theorem dX12_readUnsure_53 : decode cX12_readUnsure 53 = .ok (.aload_n 0, 1) := by decide +kernel
theorem dX12_readUnsure_54 : decode cX12_readUnsure 54 = .ok (.getfield 71, 3) := by decide +kernel
theorem dX12_readUnsure_57 : decode cX12_readUnsure 57 = .ok (.iconst 5, 1) := by decide +kernel
theorem dX12_readUnsure_58 : decode cX12_readUnsure 58 = .ok (.if_icmp .ne 4, 3) := by decide +kernel
theorem dX12_readUnsure_61 : decode cX12_readUnsure 61 = .ok (.return_, 1) := by decide +kernel
theorem dX12_readUnsure_62 : decode cX12_readUnsure 62 = .ok (.aload_n 0, 1) := by decide +kernel
theorem dX12_readUnsure_63 : decode cX12_readUnsure 63 = .ok (.getfield 145, 3) := by decide +kernel
theorem dX12_readUnsure_66 : decode cX12_readUnsure 66 = .ok (.getfield 272, 3) := by decide +kernel
theorem dX12_readUnsure_69 : decode cX12_readUnsure 69 = .ok (.aload_n 0, 1) := by decide +kernel
theorem dX12_readUnsure_70 : decode cX12_readUnsure 70 = .ok (.getfield 145, 3) := by decide +kernel
theorem dX12_readUnsure_73 : decode cX12_readUnsure 73 = .ok (.getfield 263, 3) := by decide +kernel
theorem dX12_readUnsure_76 : decode cX12_readUnsure 76 = .ok (.iload_n 1, 1) := by decide +kernel
theorem dX12_readUnsure_77 : decode cX12_readUnsure 77 = .ok (.iastore, 1) := by decide +kernel
theorem dX12_readUnsure_78 : decode cX12_readUnsure 78 = .ok (.aload_n 0, 1) := by decide +kernel
theorem dX12_readUnsure_79 : decode cX12_readUnsure 79 = .ok (.getfield 145, 3) := by decide +kernel
theorem dX12_readUnsure_82 : decode cX12_readUnsure 82 = .ok (.getfield 274, 3) := by decide +kernel
theorem dX12_readUnsure_85 : decode cX12_readUnsure 85 = .ok (.aload_n 0, 1) := by decide +kernel
theorem dX12_readUnsure_86 : decode cX12_readUnsure 86 = .ok (.getfield 145, 3) := by decide +kernel
theorem dX12_readUnsure_89 : decode cX12_readUnsure 89 = .ok (.getfield 263, 3) := by decide +kernel
theorem dX12_readUnsure_92 : decode cX12_readUnsure 92 = .ok (.iload_n 2, 1) := by decide +kernel
theorem dX12_readUnsure_93 : decode cX12_readUnsure 93 = .ok (.iastore, 1) := by decide +kernel
theorem dX12_readUnsure_94 : decode cX12_readUnsure 94 = .ok (.aload_n 0, 1) := by decide +kernel
theorem dX12_readUnsure_95 : decode cX12_readUnsure 95 = .ok (.getfield 145, 3) := by decide +kernel
theorem dX12_readUnsure_98 : decode cX12_readUnsure 98 = .ok (.dup, 1) := by decide +kernel
theorem dX12_readUnsure_99 : decode cX12_readUnsure 99 = .ok (.getfield 263, 3) := by decide +kernel
theorem dX12_readUnsure_102 : decode cX12_readUnsure 102 = .ok (.iconst 1, 1) := by decide +kernel
theorem dX12_readUnsure_103 : decode cX12_readUnsure 103 = .ok (.iadd, 1) := by decide +kernel
theorem dX12_readUnsure_104 : decode cX12_readUnsure 104 = .ok (.putfield 263, 3) := by decide +kernel
theorem dX12_readUnsure_107 : decode cX12_readUnsure 107 = .ok (.return_, 1) := by decide +kernel
theorem dX12_readTried_0 : decode cX12_readTried 0 = .ok (.aload_n 0, 1) := by decide +kernel
theorem dX12_readTried_1 : decode cX12_readTried 1 = .ok (.aload_n 0, 1) := by decide +kernel
theorem dX12_readTried_2 : decode cX12_readTried 2 = .ok (.getfield 145, 3) := by decide +kernel
theorem dX12_readTried_5 : decode cX12_readTried 5 = .ok (.getfield 277, 3) := by decide +kernel
theorem dX12_readTried_8 : decode cX12_readTried 8 = .ok (.bipush 6, 2) := by decide +kernel
theorem dX12_readTried_10 : decode cX12_readTried 10 = .ok (.invokevirtual 215, 3) := by decide +kernel
theorem dX12_readTried_13 : decode cX12_readTried 13 = .ok (.aload_n 0, 1) := by decide +kernel
theorem dX12_readTried_14 : decode cX12_readTried 14 = .ok (.invokevirtual 266, 3) := by decide +kernel
theorem dX12_readTried_17 : decode cX12_readTried 17 = .ok (.istore_n 1, 1) := by decide +kernel
theorem dX12_readTried_18 : decode cX12_readTried 18 = .ok (.aload_n 0, 1) := by decide +kernel
theorem dX12_readTried_19 : decode cX12_readTried 19 = .ok (.getfield 71, 3) := by decide +kernel
theorem dX12_readTried_22 : decode cX12_readTried 22 = .ok (.iconst 5, 1) := by decide +kernel
theorem dX12_readTried_23 : decode cX12_readTried 23 = .ok (.if_icmp .eq 19, 3) := by decide +kernel
theorem dX12_readTried_26 : decode cX12_readTried 26 = .ok (.aload_n 0, 1) := by decide +kernel
theorem dX12_readTried_27 : decode cX12_readTried 27 = .ok (.getfield 145, 3) := by decide +kernel
theorem dX12_readTried_30 : decode cX12_readTried 30 = .ok (.iload_n 1, 1) := by decide +kernel
theorem dX12_readTried_31 : decode cX12_readTried 31 = .ok (.invokevirtual 280, 3) := by decide +kernel
theorem dX12_readTried_34 : decode cX12_readTried 34 = .ok (.ifCond .eq 8, 3) := by decide +kernel
theorem dX12_readTried_37 : decode cX12_readTried 37 = .ok (.aload_n 0, 1) := by decide +kernel
theorem dX12_readTried_38 : decode cX12_readTried 38 = .ok (.iconst 3, 1) := by decide +kernel
theorem dX12_readTried_39 : decode cX12_readTried 39 = .ok (.invokevirtual 114, 3) := by decide +kernel
theorem dX12_readTried_42 : decode cX12_readTried 42 = .ok (.aload_n 0, 1) := by decide +kernel
theorem dX12_readTried_43 : decode cX12_readTried 43 = .ok (.invokevirtual 107, 3) := by decide +kernel
theorem dX12_readTried_46 : decode cX12_readTried 46 = .ok (.aload_n 0, 1) := by decide +kernel
theorem dX12_readTried_47 : decode cX12_readTried 47 = .ok (.ldc_w 283, 3) := by decide +kernel
theorem dX12_readTried_50 : decode cX12_readTried 50 = .ok (.invokevirtual 110, 3) := by decide +kernel
theorem dX12_readTried_53 : decode cX12_readTried 53 = .ok (.istore_n 2, 1) := by decide +kernel
theorem dX12_readTried_54 : decode cX12_readTried 54 = .ok (.iload_n 2, 1) := by decide +kernel
theorem dX12_readTried_55 : decode cX12_readTried 55 = .ok (.ifCond .ne 18, 3) := by decide +kernel
theorem dX12_readTried_58 : decode cX12_readTried 58 = .ok (.aload_n 0, 1) := by decide +kernel
theorem dX12_readTried_59 : decode cX12_readTried 59 = .ok (.ldc_w 285, 3) := by decide +kernel
theorem dX12_readTried_62 : decode cX12_readTried 62 = .ok (.invokevirtual 110, 3) := by decide +kernel
theorem dX12_readTried_65 : decode cX12_readTried 65 = .ok (.ifCond .ne 8, 3) := by decide +kernel
theorem dX12_readTried_68 : decode cX12_readTried 68 = .ok (.aload_n 0, 1) := by decide +kernel
theorem dX12_readTried_69 : decode cX12_readTried 69 = .ok (.iconst 1, 1) := by decide +kernel
theorem dX12_readTried_70 : decode cX12_readTried 70 = .ok (.invokevirtual 114, 3) := by decide +kernel
theorem dX12_readTried_73 : decode cX12_readTried 73 = .ok (.aload_n 0, 1) := by decide +kernel
theorem dX12_readTried_74 : decode cX12_readTried 74 = .ok (.invokevirtual 107, 3) := by decide +kernel
theorem dX12_readTried_77 : decode cX12_readTried 77 = .ok (.aload_n 0, 1) := by decide +kernel
theorem dX12_readTried_78 : decode cX12_readTried 78 = .ok (.getfield 71, 3) := by decide +kernel
theorem dX12_readTried_81 : decode cX12_readTried 81 = .ok (.iconst 5, 1) := by decide +kernel
theorem dX12_readTried_82 : decode cX12_readTried 82 = .ok (.if_icmp .ne 4, 3) := by decide +kernel
theorem dX12_readTried_85 : decode cX12_readTried 85 = .ok (.return_, 1) := by decide +kernel
theorem dX12_readTried_86 : decode cX12_readTried 86 = .ok (.aload_n 0, 1) := by decide +kernel
theorem dX12_readTried_87 : decode cX12_readTried 87 = .ok (.getfield 145, 3) := by decide +kernel
theorem dX12_readTried_90 : decode cX12_readTried 90 = .ok (.getfield 287, 3) := by decide +kernel
theorem dX12_readTried_93 : decode cX12_readTried 93 = .ok (.aload_n 0, 1) := by decide +kernel
theorem dX12_readTried_94 : decode cX12_readTried 94 = .ok (.getfield 145, 3) := by decide +kernel
theorem dX12_readTried_97 : decode cX12_readTried 97 = .ok (.getfield 277, 3) := by decide +kernel
theorem dX12_readTried_100 : decode cX12_readTried 100 = .ok (.iload_n 1, 1) := by decide +kernel
theorem dX12_readTried_101 : decode cX12_readTried 101 = .ok (.iastore, 1) := by decide +kernel
theorem dX12_readTried_102 : decode cX12_readTried 102 = .ok (.aload_n 0, 1) := by decide +kernel
theorem dX12_readTried_103 : decode cX12_readTried 103 = .ok (.getfield 145, 3) := by decide +kernel
theorem dX12_readTried_106 : decode cX12_readTried 106 = .ok (.dup, 1) := by decide +kernel
theorem dX12_readTried_107 : decode cX12_readTried 107 = .ok (.getfield 289, 3) := by decide +kernel
theorem dX12_readTried_110 : decode cX12_readTried 110 = .ok (.iload_n 2, 1) := by decide +kernel
theorem dX12_readTried_111 : decode cX12_readTried 111 = .ok (.ifCond .eq 15, 3) := by decide +kernel
theorem dX12_readTried_114 : decode cX12_readTried 114 = .ok (.iconst 1, 1) := by decide +kernel
theorem dX12_readTried_115 : decode cX12_readTried 115 = .ok (.aload_n 0, 1) := by decide +kernel
theorem dX12_readTried_116 : decode cX12_readTried 116 = .ok (.getfield 145, 3) := by decide +kernel
theorem dX12_readTried_119 : decode cX12_readTried 119 = .ok (.getfield 277, 3) := by decide +kernel
theorem dX12_readTried_122 : decode cX12_readTried 122 = .ok (.ishl, 1) := by decide +kernel
theorem dX12_readTried_123 : decode cX12_readTried 123 = .ok (.goto 4, 3) := by decide +kernel
theorem dX12_readTried_126 : decode cX12_readTried 126 = .ok (.iconst 0, 1) := by decide +kernel
theorem dX12_readTried_127 : decode cX12_readTried 127 = .ok (.ior, 1) := by decide +kernel
theorem dX12_readTried_128 : decode cX12_readTried 128 = .ok (.putfield 289, 3) := by decide +kernel
theorem dX12_readTried_131 : decode cX12_readTried 131 = .ok (.aload_n 0, 1) := by decide +kernel
theorem dX12_readTried_132 : decode cX12_readTried 132 = .ok (.getfield 145, 3) := by decide +kernel
theorem dX12_readTried_135 : decode cX12_readTried 135 = .ok (.dup, 1) := by decide +kernel
theorem dX12_readTried_136 : decode cX12_readTried 136 = .ok (.getfield 277, 3) := by decide +kernel
theorem dX12_readTried_139 : decode cX12_readTried 139 = .ok (.iconst 1, 1) := by decide +kernel
theorem dX12_readTried_140 : decode cX12_readTried 140 = .ok (.iadd, 1) := by decide +kernel
theorem dX12_readTried_141 : decode cX12_readTried 141 = .ok (.putfield 277, 3) := by decide +kernel
theorem dX12_readTried_144 : decode cX12_readTried 144 = .ok (.return_, 1) := by decide +kernel
theorem dX12_feed_0 : decode cX12_feed 0 = .ok (.aload_n 0, 1) := by decide +kernel
theorem dX12_feed_1 : decode cX12_feed 1 = .ok (.iconst 0, 1) := by decide +kernel
theorem dX12_feed_2 : decode cX12_feed 2 = .ok (.putfield 39, 3) := by decide +kernel
theorem dX12_feed_5 : decode cX12_feed 5 = .ok (.aload_n 0, 1) := by decide +kernel
theorem dX12_feed_6 : decode cX12_feed 6 = .ok (.getfield 291, 3) := by decide +kernel
theorem dX12_feed_9 : decode cX12_feed 9 = .ok (.bipush 20, 2) := by decide +kernel
theorem dX12_feed_11 : decode cX12_feed 11 = .ok (.iadd, 1) := by decide +kernel
theorem dX12_feed_12 : decode cX12_feed 12 = .ok (.sipush 800, 3) := by decide +kernel
theorem dX12_feed_15 : decode cX12_feed 15 = .ok (.if_icmp .le 5, 3) := by decide +kernel
theorem dX12_feed_18 : decode cX12_feed 18 = .ok (.iconst (-1), 1) := by decide +kernel
theorem dX12_feed_19 : decode cX12_feed 19 = .ok (.ireturn, 1) := by decide +kernel
theorem dX12_feed_20 : decode cX12_feed 20 = .ok (.iconst 0, 1) := by decide +kernel
theorem dX12_feed_21 : decode cX12_feed 21 = .ok (.istore 6, 2) := by decide +kernel
theorem dX12_feed_23 : decode cX12_feed 23 = .ok (.iload 6, 2) := by decide +kernel
theorem dX12_feed_25 : decode cX12_feed 25 = .ok (.bipush 20, 2) := by decide +kernel
theorem dX12_feed_27 : decode cX12_feed 27 = .ok (.if_icmp .ge 90, 3) := by decide +kernel
theorem dX12_feed_30 : decode cX12_feed 30 = .ok (.iload 6, 2) := by decide +kernel
theorem dX12_feed_32 : decode cX12_feed 32 = .ok (.iconst 4, 1) := by decide +kernel
theorem dX12_feed_33 : decode cX12_feed 33 = .ok (.if_icmp .ge 7, 3) := by decide +kernel
theorem dX12_feed_36 : decode cX12_feed 36 = .ok (.iload_n 1, 1) := by decide +kernel
theorem dX12_feed_37 : decode cX12_feed 37 = .ok (.goto 39, 3) := by decide +kernel
theorem dX12_feed_40 : decode cX12_feed 40 = .ok (.iload 6, 2) := by decide +kernel
theorem dX12_feed_42 : decode cX12_feed 42 = .ok (.bipush 8, 2) := by decide +kernel
theorem dX12_feed_44 : decode cX12_feed 44 = .ok (.if_icmp .ge 7, 3) := by decide +kernel
theorem dX12_feed_47 : decode cX12_feed 47 = .ok (.iload_n 2, 1) := by decide +kernel
theorem dX12_feed_48 : decode cX12_feed 48 = .ok (.goto 28, 3) := by decide +kernel
theorem dX12_feed_51 : decode cX12_feed 51 = .ok (.iload 6, 2) := by decide +kernel
theorem dX12_feed_53 : decode cX12_feed 53 = .ok (.bipush 12, 2) := by decide +kernel
theorem dX12_feed_55 : decode cX12_feed 55 = .ok (.if_icmp .ge 7, 3) := by decide +kernel
theorem dX12_feed_58 : decode cX12_feed 58 = .ok (.iload_n 3, 1) := by decide +kernel
theorem dX12_feed_59 : decode cX12_feed 59 = .ok (.goto 17, 3) := by decide +kernel
theorem dX12_feed_62 : decode cX12_feed 62 = .ok (.iload 6, 2) := by decide +kernel
theorem dX12_feed_64 : decode cX12_feed 64 = .ok (.bipush 16, 2) := by decide +kernel
theorem dX12_feed_66 : decode cX12_feed 66 = .ok (.if_icmp .ge 8, 3) := by decide +kernel
theorem dX12_feed_69 : decode cX12_feed 69 = .ok (.iload 4, 2) := by decide +kernel
theorem dX12_feed_71 : decode cX12_feed 71 = .ok (.goto 5, 3) := by decide +kernel
theorem dX12_feed_74 : decode cX12_feed 74 = .ok (.iload 5, 2) := by decide +kernel
theorem dX12_feed_76 : decode cX12_feed 76 = .ok (.istore 7, 2) := by decide +kernel
theorem dX12_feed_78 : decode cX12_feed 78 = .ok (.aload_n 0, 1) := by decide +kernel
theorem dX12_feed_79 : decode cX12_feed 79 = .ok (.getfield 13, 3) := by decide +kernel
theorem dX12_feed_82 : decode cX12_feed 82 = .ok (.aload_n 0, 1) := by decide +kernel
theorem dX12_feed_83 : decode cX12_feed 83 = .ok (.getfield 291, 3) := by decide +kernel
theorem dX12_feed_86 : decode cX12_feed 86 = .ok (.iload 7, 2) := by decide +kernel
theorem dX12_feed_88 : decode cX12_feed 88 = .ok (.bipush 24, 2) := by decide +kernel
theorem dX12_feed_90 : decode cX12_feed 90 = .ok (.bipush 8, 2) := by decide +kernel
theorem dX12_feed_92 : decode cX12_feed 92 = .ok (.iload 6, 2) := by decide +kernel
theorem dX12_feed_94 : decode cX12_feed 94 = .ok (.iconst 4, 1) := by decide +kernel
theorem dX12_feed_95 : decode cX12_feed 95 = .ok (.irem, 1) := by decide +kernel
theorem dX12_feed_96 : decode cX12_feed 96 = .ok (.imul, 1) := by decide +kernel
theorem dX12_feed_97 : decode cX12_feed 97 = .ok (.isub, 1) := by decide +kernel
theorem dX12_feed_98 : decode cX12_feed 98 = .ok (.ishr, 1) := by decide +kernel
theorem dX12_feed_99 : decode cX12_feed 99 = .ok (.i2b, 1) := by decide +kernel
theorem dX12_feed_100 : decode cX12_feed 100 = .ok (.bastore, 1) := by decide +kernel
theorem dX12_feed_101 : decode cX12_feed 101 = .ok (.aload_n 0, 1) := by decide +kernel
theorem dX12_feed_102 : decode cX12_feed 102 = .ok (.dup, 1) := by decide +kernel
theorem dX12_feed_103 : decode cX12_feed 103 = .ok (.getfield 291, 3) := by decide +kernel
theorem dX12_feed_106 : decode cX12_feed 106 = .ok (.iconst 1, 1) := by decide +kernel
theorem dX12_feed_107 : decode cX12_feed 107 = .ok (.iadd, 1) := by decide +kernel
theorem dX12_feed_108 : decode cX12_feed 108 = .ok (.putfield 291, 3) := by decide +kernel
theorem dX12_feed_111 : decode cX12_feed 111 = .ok (.iinc 6 1, 3) := by decide +kernel
theorem dX12_feed_114 : decode cX12_feed 114 = .ok (.goto (-91), 3) := by decide +kernel
theorem dX12_feed_117 : decode cX12_feed 117 = .ok (.aload_n 0, 1) := by decide +kernel
theorem dX12_feed_118 : decode cX12_feed 118 = .ok (.getfield 291, 3) := by decide +kernel
theorem dX12_feed_121 : decode cX12_feed 121 = .ok (.ireturn, 1) := by decide +kernel
theorem dX12_table_0 : decode cX12_table 0 = .ok (.aload_n 0, 1) := by decide +kernel
theorem dX12_table_1 : decode cX12_table 1 = .ok (.iconst 0, 1) := by decide +kernel
theorem dX12_table_2 : decode cX12_table 2 = .ok (.putfield 39, 3) := by decide +kernel
theorem dX12_table_5 : decode cX12_table 5 = .ok (.iload_n 1, 1) := by decide +kernel
theorem dX12_table_6 : decode cX12_table 6 = .ok (.ifCond .lt 11, 3) := by decide +kernel
theorem dX12_table_9 : decode cX12_table 9 = .ok (.iload_n 1, 1) := by decide +kernel
theorem dX12_table_10 : decode cX12_table 10 = .ok (.aload_n 0, 1) := by decide +kernel
theorem dX12_table_11 : decode cX12_table 11 = .ok (.getfield 291, 3) := by decide +kernel
theorem dX12_table_14 : decode cX12_table 14 = .ok (.if_icmp .le 9, 3) := by decide +kernel
theorem dX12_table_17 : decode cX12_table 17 = .ok (.aload_n 0, 1) := by decide +kernel
theorem dX12_table_18 : decode cX12_table 18 = .ok (.iconst 2, 1) := by decide +kernel
theorem dX12_table_19 : decode cX12_table 19 = .ok (.invokevirtual 45, 3) := by decide +kernel
theorem dX12_table_22 : decode cX12_table 22 = .ok (.ireturn, 1) := by decide +kernel
theorem dX12_table_23 : decode cX12_table 23 = .ok (.aload_n 0, 1) := by decide +kernel
theorem dX12_table_24 : decode cX12_table 24 = .ok (.iload_n 1, 1) := by decide +kernel
theorem dX12_table_25 : decode cX12_table 25 = .ok (.putfield 56, 3) := by decide +kernel
theorem dX12_table_28 : decode cX12_table 28 = .ok (.aload_n 0, 1) := by decide +kernel
theorem dX12_table_29 : decode cX12_table 29 = .ok (.iconst 0, 1) := by decide +kernel
theorem dX12_table_30 : decode cX12_table 30 = .ok (.putfield 291, 3) := by decide +kernel
theorem dX12_table_33 : decode cX12_table 33 = .ok (.aload_n 0, 1) := by decide +kernel
theorem dX12_table_34 : decode cX12_table 34 = .ok (.iconst 0, 1) := by decide +kernel
theorem dX12_table_35 : decode cX12_table 35 = .ok (.putfield 74, 3) := by decide +kernel
theorem dX12_table_38 : decode cX12_table 38 = .ok (.aload_n 0, 1) := by decide +kernel
theorem dX12_table_39 : decode cX12_table 39 = .ok (.iconst 0, 1) := by decide +kernel
theorem dX12_table_40 : decode cX12_table 40 = .ok (.putfield 97, 3) := by decide +kernel
theorem dX12_table_43 : decode cX12_table 43 = .ok (.aload_n 0, 1) := by decide +kernel
theorem dX12_table_44 : decode cX12_table 44 = .ok (.new 150, 3) := by decide +kernel
theorem dX12_table_47 : decode cX12_table 47 = .ok (.dup, 1) := by decide +kernel
theorem dX12_table_48 : decode cX12_table 48 = .ok (.invokespecial 294, 3) := by decide +kernel
theorem dX12_table_51 : decode cX12_table 51 = .ok (.putfield 145, 3) := by decide +kernel
theorem dX12_table_54 : decode cX12_table 54 = .ok (.aload_n 0, 1) := by decide +kernel
theorem dX12_table_55 : decode cX12_table 55 = .ok (.iconst 0, 1) := by decide +kernel
theorem dX12_table_56 : decode cX12_table 56 = .ok (.putfield 71, 3) := by decide +kernel
theorem dX12_table_59 : decode cX12_table 59 = .ok (.aload_n 0, 1) := by decide +kernel
theorem dX12_table_60 : decode cX12_table 60 = .ok (.invokevirtual 107, 3) := by decide +kernel
theorem dX12_table_63 : decode cX12_table 63 = .ok (.aload_n 0, 1) := by decide +kernel
theorem dX12_table_64 : decode cX12_table 64 = .ok (.invokevirtual 295, 3) := by decide +kernel
theorem dX12_table_67 : decode cX12_table 67 = .ok (.aload_n 0, 1) := by decide +kernel
theorem dX12_table_68 : decode cX12_table 68 = .ok (.getfield 97, 3) := by decide +kernel
theorem dX12_table_71 : decode cX12_table 71 = .ok (.ifCond .le 18, 3) := by decide +kernel
theorem dX12_table_74 : decode cX12_table 74 = .ok (.aload_n 0, 1) := by decide +kernel
theorem dX12_table_75 : decode cX12_table 75 = .ok (.iconst 4, 1) := by decide +kernel
theorem dX12_table_76 : decode cX12_table 76 = .ok (.putfield 42, 3) := by decide +kernel
theorem dX12_table_79 : decode cX12_table 79 = .ok (.aload_n 0, 1) := by decide +kernel
theorem dX12_table_80 : decode cX12_table 80 = .ok (.aload_n 0, 1) := by decide +kernel
theorem dX12_table_81 : decode cX12_table 81 = .ok (.getfield 100, 3) := by decide +kernel
theorem dX12_table_84 : decode cX12_table 84 = .ok (.putfield 9, 3) := by decide +kernel
theorem dX12_table_87 : decode cX12_table 87 = .ok (.iconst (-1), 1) := by decide +kernel
theorem dX12_table_88 : decode cX12_table 88 = .ok (.ireturn, 1) := by decide +kernel
theorem dX12_table_89 : decode cX12_table 89 = .ok (.aload_n 0, 1) := by decide +kernel
theorem dX12_table_90 : decode cX12_table 90 = .ok (.aload_n 0, 1) := by decide +kernel
theorem dX12_table_91 : decode cX12_table 91 = .ok (.getfield 145, 3) := by decide +kernel
theorem dX12_table_94 : decode cX12_table 94 = .ok (.putfield 298, 3) := by decide +kernel
theorem dX12_table_97 : decode cX12_table 97 = .ok (.aload_n 0, 1) := by decide +kernel
theorem dX12_table_98 : decode cX12_table 98 = .ok (.iconst 0, 1) := by decide +kernel
theorem dX12_table_99 : decode cX12_table 99 = .ok (.invokevirtual 300, 3) := by decide +kernel
theorem dX12_table_102 : decode cX12_table 102 = .ok (.iconst 0, 1) := by decide +kernel
theorem dX12_table_103 : decode cX12_table 103 = .ok (.istore_n 2, 1) := by decide +kernel
theorem dX12_table_104 : decode cX12_table 104 = .ok (.iload_n 2, 1) := by decide +kernel
theorem dX12_table_105 : decode cX12_table 105 = .ok (.bipush 58, 2) := by decide +kernel
theorem dX12_table_107 : decode cX12_table 107 = .ok (.if_icmp .ge 21, 3) := by decide +kernel
theorem dX12_table_110 : decode cX12_table 110 = .ok (.aload_n 0, 1) := by decide +kernel
theorem dX12_table_111 : decode cX12_table 111 = .ok (.getfield 17, 3) := by decide +kernel
theorem dX12_table_114 : decode cX12_table 114 = .ok (.iload_n 2, 1) := by decide +kernel
theorem dX12_table_115 : decode cX12_table 115 = .ok (.aload_n 0, 1) := by decide +kernel
theorem dX12_table_116 : decode cX12_table 116 = .ok (.getfield 21, 3) := by decide +kernel
theorem dX12_table_119 : decode cX12_table 119 = .ok (.iload_n 2, 1) := by decide +kernel
theorem dX12_table_120 : decode cX12_table 120 = .ok (.iaload, 1) := by decide +kernel
theorem dX12_table_121 : decode cX12_table 121 = .ok (.iastore, 1) := by decide +kernel
theorem dX12_table_122 : decode cX12_table 122 = .ok (.iinc 2 1, 3) := by decide +kernel
theorem dX12_table_125 : decode cX12_table 125 = .ok (.goto (-21), 3) := by decide +kernel
theorem dX12_table_128 : decode cX12_table 128 = .ok (.aload_n 0, 1) := by decide +kernel
theorem dX12_table_129 : decode cX12_table 129 = .ok (.iconst 0, 1) := by decide +kernel
theorem dX12_table_130 : decode cX12_table 130 = .ok (.putfield 303, 3) := by decide +kernel
theorem dX12_table_133 : decode cX12_table 133 = .ok (.aload_n 0, 1) := by decide +kernel
theorem dX12_table_134 : decode cX12_table 134 = .ok (.iconst 0, 1) := by decide +kernel
theorem dX12_table_135 : decode cX12_table 135 = .ok (.putfield 306, 3) := by decide +kernel
theorem dX12_table_138 : decode cX12_table 138 = .ok (.aload_n 0, 1) := by decide +kernel
theorem dX12_table_139 : decode cX12_table 139 = .ok (.aload_n 0, 1) := by decide +kernel
theorem dX12_table_140 : decode cX12_table 140 = .ok (.getfield 298, 3) := by decide +kernel
theorem dX12_table_143 : decode cX12_table 143 = .ok (.getfield 177, 3) := by decide +kernel
theorem dX12_table_146 : decode cX12_table 146 = .ok (.invokevirtual 49, 3) := by decide +kernel
theorem dX12_table_149 : decode cX12_table 149 = .ok (.ireturn, 1) := by decide +kernel
theorem dX12_fault_0 : decode cX12_fault 0 = .ok (.aload_n 0, 1) := by decide +kernel
theorem dX12_fault_1 : decode cX12_fault 1 = .ok (.iconst 0, 1) := by decide +kernel
theorem dX12_fault_2 : decode cX12_fault 2 = .ok (.putfield 39, 3) := by decide +kernel
theorem dX12_fault_5 : decode cX12_fault 5 = .ok (.aload_n 0, 1) := by decide +kernel
theorem dX12_fault_6 : decode cX12_fault 6 = .ok (.getfield 97, 3) := by decide +kernel
theorem dX12_fault_9 : decode cX12_fault 9 = .ok (.ireturn, 1) := by decide +kernel
theorem dX12_where_0 : decode cX12_where 0 = .ok (.aload_n 0, 1) := by decide +kernel
theorem dX12_where_1 : decode cX12_where 1 = .ok (.iconst 0, 1) := by decide +kernel
theorem dX12_where_2 : decode cX12_where 2 = .ok (.putfield 39, 3) := by decide +kernel
theorem dX12_where_5 : decode cX12_where 5 = .ok (.aload_n 0, 1) := by decide +kernel
theorem dX12_where_6 : decode cX12_where 6 = .ok (.getfield 9, 3) := by decide +kernel
theorem dX12_where_9 : decode cX12_where 9 = .ok (.ireturn, 1) := by decide +kernel
theorem dX12_isPerson_0 : decode cX12_isPerson 0 = .ok (.aload_n 0, 1) := by decide +kernel
theorem dX12_isPerson_1 : decode cX12_isPerson 1 = .ok (.getfield 298, 3) := by decide +kernel
theorem dX12_isPerson_4 : decode cX12_isPerson 4 = .ok (.ifnull 22, 3) := by decide +kernel
theorem dX12_isPerson_7 : decode cX12_isPerson 7 = .ok (.iload_n 1, 1) := by decide +kernel
theorem dX12_isPerson_8 : decode cX12_isPerson 8 = .ok (.ifCond .lt 18, 3) := by decide +kernel
theorem dX12_isPerson_11 : decode cX12_isPerson 11 = .ok (.iload_n 1, 1) := by decide +kernel
theorem dX12_isPerson_12 : decode cX12_isPerson 12 = .ok (.aload_n 0, 1) := by decide +kernel
theorem dX12_isPerson_13 : decode cX12_isPerson 13 = .ok (.getfield 298, 3) := by decide +kernel
theorem dX12_isPerson_16 : decode cX12_isPerson 16 = .ok (.getfield 177, 3) := by decide +kernel
theorem dX12_isPerson_19 : decode cX12_isPerson 19 = .ok (.if_icmp .ge 7, 3) := by decide +kernel
theorem dX12_isPerson_22 : decode cX12_isPerson 22 = .ok (.iconst 1, 1) := by decide +kernel
theorem dX12_isPerson_23 : decode cX12_isPerson 23 = .ok (.goto 4, 3) := by decide +kernel
theorem dX12_isPerson_26 : decode cX12_isPerson 26 = .ok (.iconst 0, 1) := by decide +kernel
theorem dX12_isPerson_27 : decode cX12_isPerson 27 = .ok (.ireturn, 1) := by decide +kernel
theorem dX12_areTwo_0 : decode cX12_areTwo 0 = .ok (.aload_n 0, 1) := by decide +kernel
theorem dX12_areTwo_1 : decode cX12_areTwo 1 = .ok (.iload_n 1, 1) := by decide +kernel
theorem dX12_areTwo_2 : decode cX12_areTwo 2 = .ok (.invokevirtual 309, 3) := by decide +kernel
theorem dX12_areTwo_5 : decode cX12_areTwo 5 = .ok (.ifCond .eq 20, 3) := by decide +kernel
theorem dX12_areTwo_8 : decode cX12_areTwo 8 = .ok (.aload_n 0, 1) := by decide +kernel
theorem dX12_areTwo_9 : decode cX12_areTwo 9 = .ok (.iload_n 2, 1) := by decide +kernel
theorem dX12_areTwo_10 : decode cX12_areTwo 10 = .ok (.invokevirtual 309, 3) := by decide +kernel
theorem dX12_areTwo_13 : decode cX12_areTwo 13 = .ok (.ifCond .eq 12, 3) := by decide +kernel
theorem dX12_areTwo_16 : decode cX12_areTwo 16 = .ok (.iload_n 1, 1) := by decide +kernel
theorem dX12_areTwo_17 : decode cX12_areTwo 17 = .ok (.iload_n 2, 1) := by decide +kernel
theorem dX12_areTwo_18 : decode cX12_areTwo 18 = .ok (.if_icmp .eq 7, 3) := by decide +kernel
theorem dX12_areTwo_21 : decode cX12_areTwo 21 = .ok (.iconst 1, 1) := by decide +kernel
theorem dX12_areTwo_22 : decode cX12_areTwo 22 = .ok (.goto 4, 3) := by decide +kernel
theorem dX12_areTwo_25 : decode cX12_areTwo 25 = .ok (.iconst 0, 1) := by decide +kernel
theorem dX12_areTwo_26 : decode cX12_areTwo 26 = .ok (.ireturn, 1) := by decide +kernel
theorem dX12_isPair_0 : decode cX12_isPair 0 = .ok (.aload_n 0, 1) := by decide +kernel
theorem dX12_isPair_1 : decode cX12_isPair 1 = .ok (.getfield 298, 3) := by decide +kernel
theorem dX12_isPair_4 : decode cX12_isPair 4 = .ok (.ifnull 22, 3) := by decide +kernel
theorem dX12_isPair_7 : decode cX12_isPair 7 = .ok (.iload_n 1, 1) := by decide +kernel
theorem dX12_isPair_8 : decode cX12_isPair 8 = .ok (.ifCond .lt 18, 3) := by decide +kernel
theorem dX12_isPair_11 : decode cX12_isPair 11 = .ok (.iload_n 1, 1) := by decide +kernel
theorem dX12_isPair_12 : decode cX12_isPair 12 = .ok (.aload_n 0, 1) := by decide +kernel
theorem dX12_isPair_13 : decode cX12_isPair 13 = .ok (.getfield 17, 3) := by decide +kernel
theorem dX12_isPair_16 : decode cX12_isPair 16 = .ok (.bipush 55, 2) := by decide +kernel
theorem dX12_isPair_18 : decode cX12_isPair 18 = .ok (.iaload, 1) := by decide +kernel
theorem dX12_isPair_19 : decode cX12_isPair 19 = .ok (.if_icmp .ge 7, 3) := by decide +kernel
theorem dX12_isPair_22 : decode cX12_isPair 22 = .ok (.iconst 1, 1) := by decide +kernel
theorem dX12_isPair_23 : decode cX12_isPair 23 = .ok (.goto 4, 3) := by decide +kernel
theorem dX12_isPair_26 : decode cX12_isPair 26 = .ok (.iconst 0, 1) := by decide +kernel
theorem dX12_isPair_27 : decode cX12_isPair 27 = .ok (.ireturn, 1) := by decide +kernel
theorem dX12_works_0 : decode cX12_works 0 = .ok (.iconst 0, 1) := by decide +kernel
theorem dX12_works_1 : decode cX12_works 1 = .ok (.istore_n 1, 1) := by decide +kernel
theorem dX12_works_2 : decode cX12_works 2 = .ok (.iload_n 1, 1) := by decide +kernel
theorem dX12_works_3 : decode cX12_works 3 = .ok (.bipush 58, 2) := by decide +kernel
theorem dX12_works_5 : decode cX12_works 5 = .ok (.if_icmp .ge 21, 3) := by decide +kernel
theorem dX12_works_8 : decode cX12_works 8 = .ok (.aload_n 0, 1) := by decide +kernel
theorem dX12_works_9 : decode cX12_works 9 = .ok (.getfield 21, 3) := by decide +kernel
theorem dX12_works_12 : decode cX12_works 12 = .ok (.iload_n 1, 1) := by decide +kernel
theorem dX12_works_13 : decode cX12_works 13 = .ok (.aload_n 0, 1) := by decide +kernel
theorem dX12_works_14 : decode cX12_works 14 = .ok (.getfield 17, 3) := by decide +kernel
theorem dX12_works_17 : decode cX12_works 17 = .ok (.iload_n 1, 1) := by decide +kernel
theorem dX12_works_18 : decode cX12_works 18 = .ok (.iaload, 1) := by decide +kernel
theorem dX12_works_19 : decode cX12_works 19 = .ok (.iastore, 1) := by decide +kernel
theorem dX12_works_20 : decode cX12_works 20 = .ok (.iinc 1 1, 3) := by decide +kernel
theorem dX12_works_23 : decode cX12_works 23 = .ok (.goto (-21), 3) := by decide +kernel
theorem dX12_works_26 : decode cX12_works 26 = .ok (.return_, 1) := by decide +kernel
theorem dX12_asTold_0 : decode cX12_asTold 0 = .ok (.iconst 0, 1) := by decide +kernel
theorem dX12_asTold_1 : decode cX12_asTold 1 = .ok (.istore_n 2, 1) := by decide +kernel
theorem dX12_asTold_2 : decode cX12_asTold 2 = .ok (.iload_n 2, 1) := by decide +kernel
theorem dX12_asTold_3 : decode cX12_asTold 3 = .ok (.bipush 58, 2) := by decide +kernel
theorem dX12_asTold_5 : decode cX12_asTold 5 = .ok (.if_icmp .ge 16, 3) := by decide +kernel
theorem dX12_asTold_8 : decode cX12_asTold 8 = .ok (.aload_n 0, 1) := by decide +kernel
theorem dX12_asTold_9 : decode cX12_asTold 9 = .ok (.getfield 21, 3) := by decide +kernel
theorem dX12_asTold_12 : decode cX12_asTold 12 = .ok (.iload_n 2, 1) := by decide +kernel
theorem dX12_asTold_13 : decode cX12_asTold 13 = .ok (.iconst 0, 1) := by decide +kernel
theorem dX12_asTold_14 : decode cX12_asTold 14 = .ok (.iastore, 1) := by decide +kernel
theorem dX12_asTold_15 : decode cX12_asTold 15 = .ok (.iinc 2 1, 3) := by decide +kernel
theorem dX12_asTold_18 : decode cX12_asTold 18 = .ok (.goto (-16), 3) := by decide +kernel
theorem dX12_asTold_21 : decode cX12_asTold 21 = .ok (.iconst 0, 1) := by decide +kernel
theorem dX12_asTold_22 : decode cX12_asTold 22 = .ok (.istore_n 2, 1) := by decide +kernel
theorem dX12_asTold_23 : decode cX12_asTold 23 = .ok (.iload_n 2, 1) := by decide +kernel
theorem dX12_asTold_24 : decode cX12_asTold 24 = .ok (.iconst 5, 1) := by decide +kernel
theorem dX12_asTold_25 : decode cX12_asTold 25 = .ok (.if_icmp .ge 24, 3) := by decide +kernel
theorem dX12_asTold_28 : decode cX12_asTold 28 = .ok (.aload_n 0, 1) := by decide +kernel
theorem dX12_asTold_29 : decode cX12_asTold 29 = .ok (.getfield 21, 3) := by decide +kernel
theorem dX12_asTold_32 : decode cX12_asTold 32 = .ok (.iload_n 2, 1) := by decide +kernel
theorem dX12_asTold_33 : decode cX12_asTold 33 = .ok (.aload_n 0, 1) := by decide +kernel
theorem dX12_asTold_34 : decode cX12_asTold 34 = .ok (.getfield 298, 3) := by decide +kernel
theorem dX12_asTold_37 : decode cX12_asTold 37 = .ok (.getfield 228, 3) := by decide +kernel
theorem dX12_asTold_40 : decode cX12_asTold 40 = .ok (.iload_n 2, 1) := by decide +kernel
theorem dX12_asTold_41 : decode cX12_asTold 41 = .ok (.iaload, 1) := by decide +kernel
theorem dX12_asTold_42 : decode cX12_asTold 42 = .ok (.iastore, 1) := by decide +kernel
theorem dX12_asTold_43 : decode cX12_asTold 43 = .ok (.iinc 2 1, 3) := by decide +kernel
theorem dX12_asTold_46 : decode cX12_asTold 46 = .ok (.goto (-23), 3) := by decide +kernel
theorem dX12_asTold_49 : decode cX12_asTold 49 = .ok (.iconst 0, 1) := by decide +kernel
theorem dX12_asTold_50 : decode cX12_asTold 50 = .ok (.istore_n 2, 1) := by decide +kernel
theorem dX12_asTold_51 : decode cX12_asTold 51 = .ok (.iload_n 2, 1) := by decide +kernel
theorem dX12_asTold_52 : decode cX12_asTold 52 = .ok (.aload_n 0, 1) := by decide +kernel
theorem dX12_asTold_53 : decode cX12_asTold 53 = .ok (.getfield 298, 3) := by decide +kernel
theorem dX12_asTold_56 : decode cX12_asTold 56 = .ok (.getfield 241, 3) := by decide +kernel
theorem dX12_asTold_59 : decode cX12_asTold 59 = .ok (.if_icmp .ge 80, 3) := by decide +kernel
theorem dX12_asTold_62 : decode cX12_asTold 62 = .ok (.aload_n 0, 1) := by decide +kernel
theorem dX12_asTold_63 : decode cX12_asTold 63 = .ok (.getfield 21, 3) := by decide +kernel
theorem dX12_asTold_66 : decode cX12_asTold 66 = .ok (.iconst 5, 1) := by decide +kernel
theorem dX12_asTold_67 : decode cX12_asTold 67 = .ok (.iload_n 2, 1) := by decide +kernel
theorem dX12_asTold_68 : decode cX12_asTold 68 = .ok (.iadd, 1) := by decide +kernel
theorem dX12_asTold_69 : decode cX12_asTold 69 = .ok (.aload_n 0, 1) := by decide +kernel
theorem dX12_asTold_70 : decode cX12_asTold 70 = .ok (.getfield 298, 3) := by decide +kernel
theorem dX12_asTold_73 : decode cX12_asTold 73 = .ok (.getfield 252, 3) := by decide +kernel
theorem dX12_asTold_76 : decode cX12_asTold 76 = .ok (.iload_n 2, 1) := by decide +kernel
theorem dX12_asTold_77 : decode cX12_asTold 77 = .ok (.iaload, 1) := by decide +kernel
theorem dX12_asTold_78 : decode cX12_asTold 78 = .ok (.iastore, 1) := by decide +kernel
theorem dX12_asTold_79 : decode cX12_asTold 79 = .ok (.aload_n 0, 1) := by decide +kernel
theorem dX12_asTold_80 : decode cX12_asTold 80 = .ok (.getfield 21, 3) := by decide +kernel
theorem dX12_asTold_83 : decode cX12_asTold 83 = .ok (.bipush 15, 2) := by decide +kernel
theorem dX12_asTold_85 : decode cX12_asTold 85 = .ok (.iload_n 2, 1) := by decide +kernel
theorem dX12_asTold_86 : decode cX12_asTold 86 = .ok (.iadd, 1) := by decide +kernel
theorem dX12_asTold_87 : decode cX12_asTold 87 = .ok (.aload_n 0, 1) := by decide +kernel
theorem dX12_asTold_88 : decode cX12_asTold 88 = .ok (.getfield 298, 3) := by decide +kernel
theorem dX12_asTold_91 : decode cX12_asTold 91 = .ok (.getfield 255, 3) := by decide +kernel
theorem dX12_asTold_94 : decode cX12_asTold 94 = .ok (.iload_n 2, 1) := by decide +kernel
theorem dX12_asTold_95 : decode cX12_asTold 95 = .ok (.iaload, 1) := by decide +kernel
theorem dX12_asTold_96 : decode cX12_asTold 96 = .ok (.iastore, 1) := by decide +kernel
theorem dX12_asTold_97 : decode cX12_asTold 97 = .ok (.aload_n 0, 1) := by decide +kernel
theorem dX12_asTold_98 : decode cX12_asTold 98 = .ok (.getfield 21, 3) := by decide +kernel
theorem dX12_asTold_101 : decode cX12_asTold 101 = .ok (.bipush 25, 2) := by decide +kernel
theorem dX12_asTold_103 : decode cX12_asTold 103 = .ok (.iload_n 2, 1) := by decide +kernel
theorem dX12_asTold_104 : decode cX12_asTold 104 = .ok (.iadd, 1) := by decide +kernel
theorem dX12_asTold_105 : decode cX12_asTold 105 = .ok (.aload_n 0, 1) := by decide +kernel
theorem dX12_asTold_106 : decode cX12_asTold 106 = .ok (.getfield 298, 3) := by decide +kernel
theorem dX12_asTold_109 : decode cX12_asTold 109 = .ok (.getfield 258, 3) := by decide +kernel
theorem dX12_asTold_112 : decode cX12_asTold 112 = .ok (.iload_n 2, 1) := by decide +kernel
theorem dX12_asTold_113 : decode cX12_asTold 113 = .ok (.iaload, 1) := by decide +kernel
theorem dX12_asTold_114 : decode cX12_asTold 114 = .ok (.iastore, 1) := by decide +kernel
theorem dX12_asTold_115 : decode cX12_asTold 115 = .ok (.aload_n 0, 1) := by decide +kernel
theorem dX12_asTold_116 : decode cX12_asTold 116 = .ok (.getfield 21, 3) := by decide +kernel
theorem dX12_asTold_119 : decode cX12_asTold 119 = .ok (.bipush 45, 2) := by decide +kernel
theorem dX12_asTold_121 : decode cX12_asTold 121 = .ok (.iload_n 2, 1) := by decide +kernel
theorem dX12_asTold_122 : decode cX12_asTold 122 = .ok (.iadd, 1) := by decide +kernel
theorem dX12_asTold_123 : decode cX12_asTold 123 = .ok (.aload_n 0, 1) := by decide +kernel
theorem dX12_asTold_124 : decode cX12_asTold 124 = .ok (.getfield 298, 3) := by decide +kernel
theorem dX12_asTold_127 : decode cX12_asTold 127 = .ok (.getfield 260, 3) := by decide +kernel
theorem dX12_asTold_130 : decode cX12_asTold 130 = .ok (.iload_n 2, 1) := by decide +kernel
theorem dX12_asTold_131 : decode cX12_asTold 131 = .ok (.iaload, 1) := by decide +kernel
theorem dX12_asTold_132 : decode cX12_asTold 132 = .ok (.iastore, 1) := by decide +kernel
theorem dX12_asTold_133 : decode cX12_asTold 133 = .ok (.iinc 2 1, 3) := by decide +kernel
theorem dX12_asTold_136 : decode cX12_asTold 136 = .ok (.goto (-85), 3) := by decide +kernel
theorem dX12_asTold_139 : decode cX12_asTold 139 = .ok (.iconst 0, 1) := by decide +kernel
theorem dX12_asTold_140 : decode cX12_asTold 140 = .ok (.istore_n 2, 1) := by decide +kernel
theorem dX12_asTold_141 : decode cX12_asTold 141 = .ok (.iload_n 2, 1) := by decide +kernel
theorem dX12_asTold_142 : decode cX12_asTold 142 = .ok (.aload_n 0, 1) := by decide +kernel
theorem dX12_asTold_143 : decode cX12_asTold 143 = .ok (.getfield 298, 3) := by decide +kernel
theorem dX12_asTold_146 : decode cX12_asTold 146 = .ok (.getfield 263, 3) := by decide +kernel
theorem dX12_asTold_149 : decode cX12_asTold 149 = .ok (.if_icmp .ge 43, 3) := by decide +kernel
theorem dX12_asTold_152 : decode cX12_asTold 152 = .ok (.iload_n 1, 1) := by decide +kernel
theorem dX12_asTold_153 : decode cX12_asTold 153 = .ok (.iload_n 2, 1) := by decide +kernel
theorem dX12_asTold_154 : decode cX12_asTold 154 = .ok (.invokestatic 237, 3) := by decide +kernel
theorem dX12_asTold_157 : decode cX12_asTold 157 = .ok (.ifCond .eq 29, 3) := by decide +kernel
theorem dX12_asTold_160 : decode cX12_asTold 160 = .ok (.aload_n 0, 1) := by decide +kernel
theorem dX12_asTold_161 : decode cX12_asTold 161 = .ok (.getfield 21, 3) := by decide +kernel
theorem dX12_asTold_164 : decode cX12_asTold 164 = .ok (.bipush 25, 2) := by decide +kernel
theorem dX12_asTold_166 : decode cX12_asTold 166 = .ok (.aload_n 0, 1) := by decide +kernel
theorem dX12_asTold_167 : decode cX12_asTold 167 = .ok (.getfield 298, 3) := by decide +kernel
theorem dX12_asTold_170 : decode cX12_asTold 170 = .ok (.getfield 272, 3) := by decide +kernel
theorem dX12_asTold_173 : decode cX12_asTold 173 = .ok (.iload_n 2, 1) := by decide +kernel
theorem dX12_asTold_174 : decode cX12_asTold 174 = .ok (.iaload, 1) := by decide +kernel
theorem dX12_asTold_175 : decode cX12_asTold 175 = .ok (.iadd, 1) := by decide +kernel
theorem dX12_asTold_176 : decode cX12_asTold 176 = .ok (.aload_n 0, 1) := by decide +kernel
theorem dX12_asTold_177 : decode cX12_asTold 177 = .ok (.getfield 298, 3) := by decide +kernel
theorem dX12_asTold_180 : decode cX12_asTold 180 = .ok (.getfield 274, 3) := by decide +kernel
theorem dX12_asTold_183 : decode cX12_asTold 183 = .ok (.iload_n 2, 1) := by decide +kernel
theorem dX12_asTold_184 : decode cX12_asTold 184 = .ok (.iaload, 1) := by decide +kernel
theorem dX12_asTold_185 : decode cX12_asTold 185 = .ok (.iastore, 1) := by decide +kernel
theorem dX12_asTold_186 : decode cX12_asTold 186 = .ok (.iinc 2 1, 3) := by decide +kernel
theorem dX12_asTold_189 : decode cX12_asTold 189 = .ok (.goto (-48), 3) := by decide +kernel
theorem dX12_asTold_192 : decode cX12_asTold 192 = .ok (.aload_n 0, 1) := by decide +kernel
theorem dX12_asTold_193 : decode cX12_asTold 193 = .ok (.getfield 21, 3) := by decide +kernel
theorem dX12_asTold_196 : decode cX12_asTold 196 = .ok (.bipush 55, 2) := by decide +kernel
theorem dX12_asTold_198 : decode cX12_asTold 198 = .ok (.aload_n 0, 1) := by decide +kernel
theorem dX12_asTold_199 : decode cX12_asTold 199 = .ok (.getfield 298, 3) := by decide +kernel
theorem dX12_asTold_202 : decode cX12_asTold 202 = .ok (.getfield 241, 3) := by decide +kernel
theorem dX12_asTold_205 : decode cX12_asTold 205 = .ok (.iastore, 1) := by decide +kernel
theorem dX12_asTold_206 : decode cX12_asTold 206 = .ok (.aload_n 0, 1) := by decide +kernel
theorem dX12_asTold_207 : decode cX12_asTold 207 = .ok (.getfield 21, 3) := by decide +kernel
theorem dX12_asTold_210 : decode cX12_asTold 210 = .ok (.bipush 56, 2) := by decide +kernel
theorem dX12_asTold_212 : decode cX12_asTold 212 = .ok (.aload_n 0, 1) := by decide +kernel
theorem dX12_asTold_213 : decode cX12_asTold 213 = .ok (.getfield 298, 3) := by decide +kernel
theorem dX12_asTold_216 : decode cX12_asTold 216 = .ok (.getfield 231, 3) := by decide +kernel
theorem dX12_asTold_219 : decode cX12_asTold 219 = .ok (.iastore, 1) := by decide +kernel
theorem dX12_asTold_220 : decode cX12_asTold 220 = .ok (.return_, 1) := by decide +kernel
theorem dX12_handleOf_0 : decode cX12_handleOf 0 = .ok (.aload_n 0, 1) := by decide +kernel
theorem dX12_handleOf_1 : decode cX12_handleOf 1 = .ok (.getfield 21, 3) := by decide +kernel
theorem dX12_handleOf_4 : decode cX12_handleOf 4 = .ok (.bipush 45, 2) := by decide +kernel
theorem dX12_handleOf_6 : decode cX12_handleOf 6 = .ok (.iload_n 1, 1) := by decide +kernel
theorem dX12_handleOf_7 : decode cX12_handleOf 7 = .ok (.iadd, 1) := by decide +kernel
theorem dX12_handleOf_8 : decode cX12_handleOf 8 = .ok (.iaload, 1) := by decide +kernel
theorem dX12_handleOf_9 : decode cX12_handleOf 9 = .ok (.iconst 2, 1) := by decide +kernel
theorem dX12_handleOf_10 : decode cX12_handleOf 10 = .ok (.if_icmp .ne 5, 3) := by decide +kernel
theorem dX12_handleOf_13 : decode cX12_handleOf 13 = .ok (.iconst 1, 1) := by decide +kernel
theorem dX12_handleOf_14 : decode cX12_handleOf 14 = .ok (.ireturn, 1) := by decide +kernel
theorem dX12_handleOf_15 : decode cX12_handleOf 15 = .ok (.aload_n 0, 1) := by decide +kernel
theorem dX12_handleOf_16 : decode cX12_handleOf 16 = .ok (.getfield 21, 3) := by decide +kernel
theorem dX12_handleOf_19 : decode cX12_handleOf 19 = .ok (.bipush 25, 2) := by decide +kernel
theorem dX12_handleOf_21 : decode cX12_handleOf 21 = .ok (.iload_n 1, 1) := by decide +kernel
theorem dX12_handleOf_22 : decode cX12_handleOf 22 = .ok (.iadd, 1) := by decide +kernel
theorem dX12_handleOf_23 : decode cX12_handleOf 23 = .ok (.iaload, 1) := by decide +kernel
theorem dX12_handleOf_24 : decode cX12_handleOf 24 = .ok (.aload_n 0, 1) := by decide +kernel
theorem dX12_handleOf_25 : decode cX12_handleOf 25 = .ok (.getfield 21, 3) := by decide +kernel
theorem dX12_handleOf_28 : decode cX12_handleOf 28 = .ok (.bipush 35, 2) := by decide +kernel
theorem dX12_handleOf_30 : decode cX12_handleOf 30 = .ok (.iload_n 1, 1) := by decide +kernel
theorem dX12_handleOf_31 : decode cX12_handleOf 31 = .ok (.iadd, 1) := by decide +kernel
theorem dX12_handleOf_32 : decode cX12_handleOf 32 = .ok (.iaload, 1) := by decide +kernel
theorem dX12_handleOf_33 : decode cX12_handleOf 33 = .ok (.if_icmp .le 25, 3) := by decide +kernel
theorem dX12_handleOf_36 : decode cX12_handleOf 36 = .ok (.aload_n 0, 1) := by decide +kernel
theorem dX12_handleOf_37 : decode cX12_handleOf 37 = .ok (.getfield 21, 3) := by decide +kernel
theorem dX12_handleOf_40 : decode cX12_handleOf 40 = .ok (.bipush 25, 2) := by decide +kernel
theorem dX12_handleOf_42 : decode cX12_handleOf 42 = .ok (.iload_n 1, 1) := by decide +kernel
theorem dX12_handleOf_43 : decode cX12_handleOf 43 = .ok (.iadd, 1) := by decide +kernel
theorem dX12_handleOf_44 : decode cX12_handleOf 44 = .ok (.iaload, 1) := by decide +kernel
theorem dX12_handleOf_45 : decode cX12_handleOf 45 = .ok (.aload_n 0, 1) := by decide +kernel
theorem dX12_handleOf_46 : decode cX12_handleOf 46 = .ok (.getfield 21, 3) := by decide +kernel
theorem dX12_handleOf_49 : decode cX12_handleOf 49 = .ok (.bipush 35, 2) := by decide +kernel
theorem dX12_handleOf_51 : decode cX12_handleOf 51 = .ok (.iload_n 1, 1) := by decide +kernel
theorem dX12_handleOf_52 : decode cX12_handleOf 52 = .ok (.iadd, 1) := by decide +kernel
theorem dX12_handleOf_53 : decode cX12_handleOf 53 = .ok (.iaload, 1) := by decide +kernel
theorem dX12_handleOf_54 : decode cX12_handleOf 54 = .ok (.isub, 1) := by decide +kernel
theorem dX12_handleOf_55 : decode cX12_handleOf 55 = .ok (.goto 4, 3) := by decide +kernel
theorem dX12_handleOf_58 : decode cX12_handleOf 58 = .ok (.iconst 0, 1) := by decide +kernel
theorem dX12_handleOf_59 : decode cX12_handleOf 59 = .ok (.ireturn, 1) := by decide +kernel
theorem dX12_farOf_0 : decode cX12_farOf 0 = .ok (.aload_n 0, 1) := by decide +kernel
theorem dX12_farOf_1 : decode cX12_farOf 1 = .ok (.getfield 21, 3) := by decide +kernel
theorem dX12_farOf_4 : decode cX12_farOf 4 = .ok (.iload_n 1, 1) := by decide +kernel
theorem dX12_farOf_5 : decode cX12_farOf 5 = .ok (.iaload, 1) := by decide +kernel
theorem dX12_farOf_6 : decode cX12_farOf 6 = .ok (.aload_n 0, 1) := by decide +kernel
theorem dX12_farOf_7 : decode cX12_farOf 7 = .ok (.getfield 21, 3) := by decide +kernel
theorem dX12_farOf_10 : decode cX12_farOf 10 = .ok (.iload_n 2, 1) := by decide +kernel
theorem dX12_farOf_11 : decode cX12_farOf 11 = .ok (.iaload, 1) := by decide +kernel
theorem dX12_farOf_12 : decode cX12_farOf 12 = .ok (.if_icmp .le 19, 3) := by decide +kernel
theorem dX12_farOf_15 : decode cX12_farOf 15 = .ok (.aload_n 0, 1) := by decide +kernel
theorem dX12_farOf_16 : decode cX12_farOf 16 = .ok (.getfield 21, 3) := by decide +kernel
theorem dX12_farOf_19 : decode cX12_farOf 19 = .ok (.iload_n 1, 1) := by decide +kernel
theorem dX12_farOf_20 : decode cX12_farOf 20 = .ok (.iaload, 1) := by decide +kernel
theorem dX12_farOf_21 : decode cX12_farOf 21 = .ok (.aload_n 0, 1) := by decide +kernel
theorem dX12_farOf_22 : decode cX12_farOf 22 = .ok (.getfield 21, 3) := by decide +kernel
theorem dX12_farOf_25 : decode cX12_farOf 25 = .ok (.iload_n 2, 1) := by decide +kernel
theorem dX12_farOf_26 : decode cX12_farOf 26 = .ok (.iaload, 1) := by decide +kernel
theorem dX12_farOf_27 : decode cX12_farOf 27 = .ok (.isub, 1) := by decide +kernel
theorem dX12_farOf_28 : decode cX12_farOf 28 = .ok (.goto 16, 3) := by decide +kernel
theorem dX12_farOf_31 : decode cX12_farOf 31 = .ok (.aload_n 0, 1) := by decide +kernel
theorem dX12_farOf_32 : decode cX12_farOf 32 = .ok (.getfield 21, 3) := by decide +kernel
theorem dX12_farOf_35 : decode cX12_farOf 35 = .ok (.iload_n 2, 1) := by decide +kernel
theorem dX12_farOf_36 : decode cX12_farOf 36 = .ok (.iaload, 1) := by decide +kernel
theorem dX12_farOf_37 : decode cX12_farOf 37 = .ok (.aload_n 0, 1) := by decide +kernel
theorem dX12_farOf_38 : decode cX12_farOf 38 = .ok (.getfield 21, 3) := by decide +kernel
theorem dX12_farOf_41 : decode cX12_farOf 41 = .ok (.iload_n 1, 1) := by decide +kernel
theorem dX12_farOf_42 : decode cX12_farOf 42 = .ok (.iaload, 1) := by decide +kernel
theorem dX12_farOf_43 : decode cX12_farOf 43 = .ok (.isub, 1) := by decide +kernel
theorem dX12_farOf_44 : decode cX12_farOf 44 = .ok (.ireturn, 1) := by decide +kernel
theorem dX12_forksOf_0 : decode cX12_forksOf 0 = .ok (.iconst 0, 1) := by decide +kernel
theorem dX12_forksOf_1 : decode cX12_forksOf 1 = .ok (.istore_n 3, 1) := by decide +kernel
theorem dX12_forksOf_2 : decode cX12_forksOf 2 = .ok (.iconst 0, 1) := by decide +kernel
theorem dX12_forksOf_3 : decode cX12_forksOf 3 = .ok (.istore 4, 2) := by decide +kernel
theorem dX12_forksOf_5 : decode cX12_forksOf 5 = .ok (.iload 4, 2) := by decide +kernel
theorem dX12_forksOf_7 : decode cX12_forksOf 7 = .ok (.aload_n 0, 1) := by decide +kernel
theorem dX12_forksOf_8 : decode cX12_forksOf 8 = .ok (.getfield 298, 3) := by decide +kernel
theorem dX12_forksOf_11 : decode cX12_forksOf 11 = .ok (.getfield 149, 3) := by decide +kernel
theorem dX12_forksOf_14 : decode cX12_forksOf 14 = .ok (.if_icmp .ge 89, 3) := by decide +kernel
theorem dX12_forksOf_17 : decode cX12_forksOf 17 = .ok (.iload_n 3, 1) := by decide +kernel
theorem dX12_forksOf_18 : decode cX12_forksOf 18 = .ok (.aload_n 0, 1) := by decide +kernel
theorem dX12_forksOf_19 : decode cX12_forksOf 19 = .ok (.getfield 21, 3) := by decide +kernel
theorem dX12_forksOf_22 : decode cX12_forksOf 22 = .ok (.bipush 56, 2) := by decide +kernel
theorem dX12_forksOf_24 : decode cX12_forksOf 24 = .ok (.iaload, 1) := by decide +kernel
theorem dX12_forksOf_25 : decode cX12_forksOf 25 = .ok (.iload 4, 2) := by decide +kernel
theorem dX12_forksOf_27 : decode cX12_forksOf 27 = .ok (.invokestatic 237, 3) := by decide +kernel
theorem dX12_forksOf_30 : decode cX12_forksOf 30 = .ok (.ifCond .eq 64, 3) := by decide +kernel
theorem dX12_forksOf_33 : decode cX12_forksOf 33 = .ok (.iload 4, 2) := by decide +kernel
theorem dX12_forksOf_35 : decode cX12_forksOf 35 = .ok (.aload_n 0, 1) := by decide +kernel
theorem dX12_forksOf_36 : decode cX12_forksOf 36 = .ok (.getfield 21, 3) := by decide +kernel
theorem dX12_forksOf_39 : decode cX12_forksOf 39 = .ok (.iload_n 1, 1) := by decide +kernel
theorem dX12_forksOf_40 : decode cX12_forksOf 40 = .ok (.iaload, 1) := by decide +kernel
theorem dX12_forksOf_41 : decode cX12_forksOf 41 = .ok (.if_icmp .le 7, 3) := by decide +kernel
theorem dX12_forksOf_44 : decode cX12_forksOf 44 = .ok (.iconst 1, 1) := by decide +kernel
theorem dX12_forksOf_45 : decode cX12_forksOf 45 = .ok (.goto 4, 3) := by decide +kernel
theorem dX12_forksOf_48 : decode cX12_forksOf 48 = .ok (.iconst 0, 1) := by decide +kernel
theorem dX12_forksOf_49 : decode cX12_forksOf 49 = .ok (.iload 4, 2) := by decide +kernel
theorem dX12_forksOf_51 : decode cX12_forksOf 51 = .ok (.aload_n 0, 1) := by decide +kernel
theorem dX12_forksOf_52 : decode cX12_forksOf 52 = .ok (.getfield 21, 3) := by decide +kernel
theorem dX12_forksOf_55 : decode cX12_forksOf 55 = .ok (.iload_n 2, 1) := by decide +kernel
theorem dX12_forksOf_56 : decode cX12_forksOf 56 = .ok (.iaload, 1) := by decide +kernel
theorem dX12_forksOf_57 : decode cX12_forksOf 57 = .ok (.if_icmp .le 7, 3) := by decide +kernel
theorem dX12_forksOf_60 : decode cX12_forksOf 60 = .ok (.iconst 1, 1) := by decide +kernel
theorem dX12_forksOf_61 : decode cX12_forksOf 61 = .ok (.goto 4, 3) := by decide +kernel
theorem dX12_forksOf_64 : decode cX12_forksOf 64 = .ok (.iconst 0, 1) := by decide +kernel
theorem dX12_forksOf_65 : decode cX12_forksOf 65 = .ok (.if_icmp .eq 29, 3) := by decide +kernel
theorem dX12_forksOf_68 : decode cX12_forksOf 68 = .ok (.iload 4, 2) := by decide +kernel
theorem dX12_forksOf_70 : decode cX12_forksOf 70 = .ok (.aload_n 0, 1) := by decide +kernel
theorem dX12_forksOf_71 : decode cX12_forksOf 71 = .ok (.getfield 21, 3) := by decide +kernel
theorem dX12_forksOf_74 : decode cX12_forksOf 74 = .ok (.iload_n 1, 1) := by decide +kernel
theorem dX12_forksOf_75 : decode cX12_forksOf 75 = .ok (.iaload, 1) := by decide +kernel
theorem dX12_forksOf_76 : decode cX12_forksOf 76 = .ok (.if_icmp .eq 18, 3) := by decide +kernel
theorem dX12_forksOf_79 : decode cX12_forksOf 79 = .ok (.iload 4, 2) := by decide +kernel
theorem dX12_forksOf_81 : decode cX12_forksOf 81 = .ok (.aload_n 0, 1) := by decide +kernel
theorem dX12_forksOf_82 : decode cX12_forksOf 82 = .ok (.getfield 21, 3) := by decide +kernel
theorem dX12_forksOf_85 : decode cX12_forksOf 85 = .ok (.iload_n 2, 1) := by decide +kernel
theorem dX12_forksOf_86 : decode cX12_forksOf 86 = .ok (.iaload, 1) := by decide +kernel
theorem dX12_forksOf_87 : decode cX12_forksOf 87 = .ok (.if_icmp .eq 7, 3) := by decide +kernel
theorem dX12_forksOf_90 : decode cX12_forksOf 90 = .ok (.iconst 1, 1) := by decide +kernel
theorem dX12_forksOf_91 : decode cX12_forksOf 91 = .ok (.goto 4, 3) := by decide +kernel
theorem dX12_forksOf_94 : decode cX12_forksOf 94 = .ok (.iconst 0, 1) := by decide +kernel
theorem dX12_forksOf_95 : decode cX12_forksOf 95 = .ok (.iadd, 1) := by decide +kernel
theorem dX12_forksOf_96 : decode cX12_forksOf 96 = .ok (.istore_n 3, 1) := by decide +kernel
theorem dX12_forksOf_97 : decode cX12_forksOf 97 = .ok (.iinc 4 1, 3) := by decide +kernel
theorem dX12_forksOf_100 : decode cX12_forksOf 100 = .ok (.goto (-95), 3) := by decide +kernel
theorem dX12_forksOf_103 : decode cX12_forksOf 103 = .ok (.iload_n 3, 1) := by decide +kernel
theorem dX12_forksOf_104 : decode cX12_forksOf 104 = .ok (.ireturn, 1) := by decide +kernel
theorem dX12_farPair_0 : decode cX12_farPair 0 = .ok (.aload_n 0, 1) := by decide +kernel
theorem dX12_farPair_1 : decode cX12_farPair 1 = .ok (.aload_n 0, 1) := by decide +kernel
theorem dX12_farPair_2 : decode cX12_farPair 2 = .ok (.getfield 21, 3) := by decide +kernel
theorem dX12_farPair_5 : decode cX12_farPair 5 = .ok (.iconst 5, 1) := by decide +kernel
theorem dX12_farPair_6 : decode cX12_farPair 6 = .ok (.iload_n 1, 1) := by decide +kernel
theorem dX12_farPair_7 : decode cX12_farPair 7 = .ok (.iadd, 1) := by decide +kernel
theorem dX12_farPair_8 : decode cX12_farPair 8 = .ok (.iaload, 1) := by decide +kernel
theorem dX12_farPair_9 : decode cX12_farPair 9 = .ok (.aload_n 0, 1) := by decide +kernel
theorem dX12_farPair_10 : decode cX12_farPair 10 = .ok (.getfield 21, 3) := by decide +kernel
theorem dX12_farPair_13 : decode cX12_farPair 13 = .ok (.bipush 15, 2) := by decide +kernel
theorem dX12_farPair_15 : decode cX12_farPair 15 = .ok (.iload_n 1, 1) := by decide +kernel
theorem dX12_farPair_16 : decode cX12_farPair 16 = .ok (.iadd, 1) := by decide +kernel
theorem dX12_farPair_17 : decode cX12_farPair 17 = .ok (.iaload, 1) := by decide +kernel
theorem dX12_farPair_18 : decode cX12_farPair 18 = .ok (.invokevirtual 312, 3) := by decide +kernel
theorem dX12_farPair_21 : decode cX12_farPair 21 = .ok (.ireturn, 1) := by decide +kernel
theorem dX12_slopsOf_0 : decode cX12_slopsOf 0 = .ok (.aload_n 0, 1) := by decide +kernel
theorem dX12_slopsOf_1 : decode cX12_slopsOf 1 = .ok (.iload_n 1, 1) := by decide +kernel
theorem dX12_slopsOf_2 : decode cX12_slopsOf 2 = .ok (.invokevirtual 315, 3) := by decide +kernel
theorem dX12_slopsOf_5 : decode cX12_slopsOf 5 = .ok (.iconst 3, 1) := by decide +kernel
theorem dX12_slopsOf_6 : decode cX12_slopsOf 6 = .ok (.aload_n 0, 1) := by decide +kernel
theorem dX12_slopsOf_7 : decode cX12_slopsOf 7 = .ok (.aload_n 0, 1) := by decide +kernel
theorem dX12_slopsOf_8 : decode cX12_slopsOf 8 = .ok (.getfield 21, 3) := by decide +kernel
theorem dX12_slopsOf_11 : decode cX12_slopsOf 11 = .ok (.iconst 5, 1) := by decide +kernel
theorem dX12_slopsOf_12 : decode cX12_slopsOf 12 = .ok (.iload_n 1, 1) := by decide +kernel
theorem dX12_slopsOf_13 : decode cX12_slopsOf 13 = .ok (.iadd, 1) := by decide +kernel
theorem dX12_slopsOf_14 : decode cX12_slopsOf 14 = .ok (.iaload, 1) := by decide +kernel
theorem dX12_slopsOf_15 : decode cX12_slopsOf 15 = .ok (.aload_n 0, 1) := by decide +kernel
theorem dX12_slopsOf_16 : decode cX12_slopsOf 16 = .ok (.getfield 21, 3) := by decide +kernel
theorem dX12_slopsOf_19 : decode cX12_slopsOf 19 = .ok (.bipush 15, 2) := by decide +kernel
theorem dX12_slopsOf_21 : decode cX12_slopsOf 21 = .ok (.iload_n 1, 1) := by decide +kernel
theorem dX12_slopsOf_22 : decode cX12_slopsOf 22 = .ok (.iadd, 1) := by decide +kernel
theorem dX12_slopsOf_23 : decode cX12_slopsOf 23 = .ok (.iaload, 1) := by decide +kernel
theorem dX12_slopsOf_24 : decode cX12_slopsOf 24 = .ok (.invokevirtual 318, 3) := by decide +kernel
theorem dX12_slopsOf_27 : decode cX12_slopsOf 27 = .ok (.imul, 1) := by decide +kernel
theorem dX12_slopsOf_28 : decode cX12_slopsOf 28 = .ok (.isub, 1) := by decide +kernel
theorem dX12_slopsOf_29 : decode cX12_slopsOf 29 = .ok (.istore_n 2, 1) := by decide +kernel
theorem dX12_slopsOf_30 : decode cX12_slopsOf 30 = .ok (.iload_n 2, 1) := by decide +kernel
theorem dX12_slopsOf_31 : decode cX12_slopsOf 31 = .ok (.ifCond .le 7, 3) := by decide +kernel
theorem dX12_slopsOf_34 : decode cX12_slopsOf 34 = .ok (.iload_n 2, 1) := by decide +kernel
theorem dX12_slopsOf_35 : decode cX12_slopsOf 35 = .ok (.goto 4, 3) := by decide +kernel
theorem dX12_slopsOf_38 : decode cX12_slopsOf 38 = .ok (.iconst 0, 1) := by decide +kernel
theorem dX12_slopsOf_39 : decode cX12_slopsOf 39 = .ok (.ireturn, 1) := by decide +kernel
theorem dX12_feedsBy_0 : decode cX12_feedsBy 0 = .ok (.aload_n 0, 1) := by decide +kernel
theorem dX12_feedsBy_1 : decode cX12_feedsBy 1 = .ok (.iload_n 1, 1) := by decide +kernel
theorem dX12_feedsBy_2 : decode cX12_feedsBy 2 = .ok (.invokevirtual 315, 3) := by decide +kernel
theorem dX12_feedsBy_5 : decode cX12_feedsBy 5 = .ok (.istore_n 3, 1) := by decide +kernel
theorem dX12_feedsBy_6 : decode cX12_feedsBy 6 = .ok (.iload_n 3, 1) := by decide +kernel
theorem dX12_feedsBy_7 : decode cX12_feedsBy 7 = .ok (.iload_n 2, 1) := by decide +kernel
theorem dX12_feedsBy_8 : decode cX12_feedsBy 8 = .ok (.isub, 1) := by decide +kernel
theorem dX12_feedsBy_9 : decode cX12_feedsBy 9 = .ok (.aload_n 0, 1) := by decide +kernel
theorem dX12_feedsBy_10 : decode cX12_feedsBy 10 = .ok (.getfield 298, 3) := by decide +kernel
theorem dX12_feedsBy_13 : decode cX12_feedsBy 13 = .ok (.getfield 209, 3) := by decide +kernel
theorem dX12_feedsBy_16 : decode cX12_feedsBy 16 = .ok (.ineg, 1) := by decide +kernel
theorem dX12_feedsBy_17 : decode cX12_feedsBy 17 = .ok (.aload_n 0, 1) := by decide +kernel
theorem dX12_feedsBy_18 : decode cX12_feedsBy 18 = .ok (.getfield 298, 3) := by decide +kernel
theorem dX12_feedsBy_21 : decode cX12_feedsBy 21 = .ok (.getfield 209, 3) := by decide +kernel
theorem dX12_feedsBy_24 : decode cX12_feedsBy 24 = .ok (.invokestatic 118, 3) := by decide +kernel
theorem dX12_feedsBy_27 : decode cX12_feedsBy 27 = .ok (.ifCond .ne 42, 3) := by decide +kernel
theorem dX12_feedsBy_30 : decode cX12_feedsBy 30 = .ok (.aload_n 0, 1) := by decide +kernel
theorem dX12_feedsBy_31 : decode cX12_feedsBy 31 = .ok (.getfield 21, 3) := by decide +kernel
theorem dX12_feedsBy_34 : decode cX12_feedsBy 34 = .ok (.bipush 45, 2) := by decide +kernel
theorem dX12_feedsBy_36 : decode cX12_feedsBy 36 = .ok (.iload_n 1, 1) := by decide +kernel
theorem dX12_feedsBy_37 : decode cX12_feedsBy 37 = .ok (.iadd, 1) := by decide +kernel
theorem dX12_feedsBy_38 : decode cX12_feedsBy 38 = .ok (.iaload, 1) := by decide +kernel
theorem dX12_feedsBy_39 : decode cX12_feedsBy 39 = .ok (.iconst 1, 1) := by decide +kernel
theorem dX12_feedsBy_40 : decode cX12_feedsBy 40 = .ok (.if_icmp .ne 33, 3) := by decide +kernel
theorem dX12_feedsBy_43 : decode cX12_feedsBy 43 = .ok (.iload_n 3, 1) := by decide +kernel
theorem dX12_feedsBy_44 : decode cX12_feedsBy 44 = .ok (.iload_n 2, 1) := by decide +kernel
theorem dX12_feedsBy_45 : decode cX12_feedsBy 45 = .ok (.iconst 2, 1) := by decide +kernel
theorem dX12_feedsBy_46 : decode cX12_feedsBy 46 = .ok (.idiv, 1) := by decide +kernel
theorem dX12_feedsBy_47 : decode cX12_feedsBy 47 = .ok (.isub, 1) := by decide +kernel
theorem dX12_feedsBy_48 : decode cX12_feedsBy 48 = .ok (.aload_n 0, 1) := by decide +kernel
theorem dX12_feedsBy_49 : decode cX12_feedsBy 49 = .ok (.getfield 298, 3) := by decide +kernel
theorem dX12_feedsBy_52 : decode cX12_feedsBy 52 = .ok (.getfield 209, 3) := by decide +kernel
theorem dX12_feedsBy_55 : decode cX12_feedsBy 55 = .ok (.ineg, 1) := by decide +kernel
theorem dX12_feedsBy_56 : decode cX12_feedsBy 56 = .ok (.aload_n 0, 1) := by decide +kernel
theorem dX12_feedsBy_57 : decode cX12_feedsBy 57 = .ok (.getfield 298, 3) := by decide +kernel
theorem dX12_feedsBy_60 : decode cX12_feedsBy 60 = .ok (.getfield 209, 3) := by decide +kernel
theorem dX12_feedsBy_63 : decode cX12_feedsBy 63 = .ok (.invokestatic 118, 3) := by decide +kernel
theorem dX12_feedsBy_66 : decode cX12_feedsBy 66 = .ok (.ifCond .eq 7, 3) := by decide +kernel
theorem dX12_feedsBy_69 : decode cX12_feedsBy 69 = .ok (.iconst 1, 1) := by decide +kernel
theorem dX12_feedsBy_70 : decode cX12_feedsBy 70 = .ok (.goto 4, 3) := by decide +kernel
theorem dX12_feedsBy_73 : decode cX12_feedsBy 73 = .ok (.iconst 0, 1) := by decide +kernel
theorem dX12_feedsBy_74 : decode cX12_feedsBy 74 = .ok (.ireturn, 1) := by decide +kernel
theorem dX12_isFeeding_0 : decode cX12_isFeeding 0 = .ok (.aload_n 0, 1) := by decide +kernel
theorem dX12_isFeeding_1 : decode cX12_isFeeding 1 = .ok (.iload_n 1, 1) := by decide +kernel
theorem dX12_isFeeding_2 : decode cX12_isFeeding 2 = .ok (.aload_n 0, 1) := by decide +kernel
theorem dX12_isFeeding_3 : decode cX12_isFeeding 3 = .ok (.iload_n 1, 1) := by decide +kernel
theorem dX12_isFeeding_4 : decode cX12_isFeeding 4 = .ok (.invokevirtual 321, 3) := by decide +kernel
theorem dX12_isFeeding_7 : decode cX12_isFeeding 7 = .ok (.invokevirtual 324, 3) := by decide +kernel
theorem dX12_isFeeding_10 : decode cX12_isFeeding 10 = .ok (.ireturn, 1) := by decide +kernel
theorem dX12_hasOne_0 : decode cX12_hasOne 0 = .ok (.aload_n 0, 1) := by decide +kernel
theorem dX12_hasOne_1 : decode cX12_hasOne 1 = .ok (.getfield 21, 3) := by decide +kernel
theorem dX12_hasOne_4 : decode cX12_hasOne 4 = .ok (.iconst 5, 1) := by decide +kernel
theorem dX12_hasOne_5 : decode cX12_hasOne 5 = .ok (.iload_n 1, 1) := by decide +kernel
theorem dX12_hasOne_6 : decode cX12_hasOne 6 = .ok (.iadd, 1) := by decide +kernel
theorem dX12_hasOne_7 : decode cX12_hasOne 7 = .ok (.iaload, 1) := by decide +kernel
theorem dX12_hasOne_8 : decode cX12_hasOne 8 = .ok (.iload_n 2, 1) := by decide +kernel
theorem dX12_hasOne_9 : decode cX12_hasOne 9 = .ok (.if_icmp .eq 16, 3) := by decide +kernel
theorem dX12_hasOne_12 : decode cX12_hasOne 12 = .ok (.aload_n 0, 1) := by decide +kernel
theorem dX12_hasOne_13 : decode cX12_hasOne 13 = .ok (.getfield 21, 3) := by decide +kernel
theorem dX12_hasOne_16 : decode cX12_hasOne 16 = .ok (.bipush 15, 2) := by decide +kernel
theorem dX12_hasOne_18 : decode cX12_hasOne 18 = .ok (.iload_n 1, 1) := by decide +kernel
theorem dX12_hasOne_19 : decode cX12_hasOne 19 = .ok (.iadd, 1) := by decide +kernel
theorem dX12_hasOne_20 : decode cX12_hasOne 20 = .ok (.iaload, 1) := by decide +kernel
theorem dX12_hasOne_21 : decode cX12_hasOne 21 = .ok (.iload_n 2, 1) := by decide +kernel
theorem dX12_hasOne_22 : decode cX12_hasOne 22 = .ok (.if_icmp .ne 7, 3) := by decide +kernel
theorem dX12_hasOne_25 : decode cX12_hasOne 25 = .ok (.iconst 1, 1) := by decide +kernel
theorem dX12_hasOne_26 : decode cX12_hasOne 26 = .ok (.goto 4, 3) := by decide +kernel
theorem dX12_hasOne_29 : decode cX12_hasOne 29 = .ok (.iconst 0, 1) := by decide +kernel
theorem dX12_hasOne_30 : decode cX12_hasOne 30 = .ok (.ireturn, 1) := by decide +kernel
theorem dX12_share_0 : decode cX12_share 0 = .ok (.aload_n 0, 1) := by decide +kernel
theorem dX12_share_1 : decode cX12_share 1 = .ok (.iload_n 1, 1) := by decide +kernel
theorem dX12_share_2 : decode cX12_share 2 = .ok (.aload_n 0, 1) := by decide +kernel
theorem dX12_share_3 : decode cX12_share 3 = .ok (.getfield 21, 3) := by decide +kernel
theorem dX12_share_6 : decode cX12_share 6 = .ok (.iconst 5, 1) := by decide +kernel
theorem dX12_share_7 : decode cX12_share 7 = .ok (.iload_n 2, 1) := by decide +kernel
theorem dX12_share_8 : decode cX12_share 8 = .ok (.iadd, 1) := by decide +kernel
theorem dX12_share_9 : decode cX12_share 9 = .ok (.iaload, 1) := by decide +kernel
theorem dX12_share_10 : decode cX12_share 10 = .ok (.invokevirtual 327, 3) := by decide +kernel
theorem dX12_share_13 : decode cX12_share 13 = .ok (.ifCond .ne 20, 3) := by decide +kernel
theorem dX12_share_16 : decode cX12_share 16 = .ok (.aload_n 0, 1) := by decide +kernel
theorem dX12_share_17 : decode cX12_share 17 = .ok (.iload_n 1, 1) := by decide +kernel
theorem dX12_share_18 : decode cX12_share 18 = .ok (.aload_n 0, 1) := by decide +kernel
theorem dX12_share_19 : decode cX12_share 19 = .ok (.getfield 21, 3) := by decide +kernel
theorem dX12_share_22 : decode cX12_share 22 = .ok (.bipush 15, 2) := by decide +kernel
theorem dX12_share_24 : decode cX12_share 24 = .ok (.iload_n 2, 1) := by decide +kernel
theorem dX12_share_25 : decode cX12_share 25 = .ok (.iadd, 1) := by decide +kernel
theorem dX12_share_26 : decode cX12_share 26 = .ok (.iaload, 1) := by decide +kernel
theorem dX12_share_27 : decode cX12_share 27 = .ok (.invokevirtual 327, 3) := by decide +kernel
theorem dX12_share_30 : decode cX12_share 30 = .ok (.ifCond .eq 7, 3) := by decide +kernel
theorem dX12_share_33 : decode cX12_share 33 = .ok (.iconst 1, 1) := by decide +kernel
theorem dX12_share_34 : decode cX12_share 34 = .ok (.goto 4, 3) := by decide +kernel
theorem dX12_share_37 : decode cX12_share 37 = .ok (.iconst 0, 1) := by decide +kernel
theorem dX12_share_38 : decode cX12_share 38 = .ok (.ireturn, 1) := by decide +kernel
theorem dX12_pairBy_0 : decode cX12_pairBy 0 = .ok (.iconst 0, 1) := by decide +kernel
theorem dX12_pairBy_1 : decode cX12_pairBy 1 = .ok (.istore_n 3, 1) := by decide +kernel
theorem dX12_pairBy_2 : decode cX12_pairBy 2 = .ok (.iload_n 3, 1) := by decide +kernel
theorem dX12_pairBy_3 : decode cX12_pairBy 3 = .ok (.aload_n 0, 1) := by decide +kernel
theorem dX12_pairBy_4 : decode cX12_pairBy 4 = .ok (.getfield 21, 3) := by decide +kernel
theorem dX12_pairBy_7 : decode cX12_pairBy 7 = .ok (.bipush 55, 2) := by decide +kernel
theorem dX12_pairBy_9 : decode cX12_pairBy 9 = .ok (.iaload, 1) := by decide +kernel
theorem dX12_pairBy_10 : decode cX12_pairBy 10 = .ok (.if_icmp .ge 29, 3) := by decide +kernel
theorem dX12_pairBy_13 : decode cX12_pairBy 13 = .ok (.aload_n 0, 1) := by decide +kernel
theorem dX12_pairBy_14 : decode cX12_pairBy 14 = .ok (.iload_n 3, 1) := by decide +kernel
theorem dX12_pairBy_15 : decode cX12_pairBy 15 = .ok (.iload_n 1, 1) := by decide +kernel
theorem dX12_pairBy_16 : decode cX12_pairBy 16 = .ok (.invokevirtual 327, 3) := by decide +kernel
theorem dX12_pairBy_19 : decode cX12_pairBy 19 = .ok (.ifCond .eq 14, 3) := by decide +kernel
theorem dX12_pairBy_22 : decode cX12_pairBy 22 = .ok (.aload_n 0, 1) := by decide +kernel
theorem dX12_pairBy_23 : decode cX12_pairBy 23 = .ok (.iload_n 3, 1) := by decide +kernel
theorem dX12_pairBy_24 : decode cX12_pairBy 24 = .ok (.iload_n 2, 1) := by decide +kernel
theorem dX12_pairBy_25 : decode cX12_pairBy 25 = .ok (.invokevirtual 327, 3) := by decide +kernel
theorem dX12_pairBy_28 : decode cX12_pairBy 28 = .ok (.ifCond .eq 5, 3) := by decide +kernel
theorem dX12_pairBy_31 : decode cX12_pairBy 31 = .ok (.iload_n 3, 1) := by decide +kernel
theorem dX12_pairBy_32 : decode cX12_pairBy 32 = .ok (.ireturn, 1) := by decide +kernel
theorem dX12_pairBy_33 : decode cX12_pairBy 33 = .ok (.iinc 3 1, 3) := by decide +kernel
theorem dX12_pairBy_36 : decode cX12_pairBy 36 = .ok (.goto (-34), 3) := by decide +kernel
theorem dX12_pairBy_39 : decode cX12_pairBy 39 = .ok (.bipush (-2), 2) := by decide +kernel
theorem dX12_pairBy_41 : decode cX12_pairBy 41 = .ok (.ireturn, 1) := by decide +kernel
theorem dX12_seat_0 : decode cX12_seat 0 = .ok (.aload_n 0, 1) := by decide +kernel
theorem dX12_seat_1 : decode cX12_seat 1 = .ok (.iconst 0, 1) := by decide +kernel
theorem dX12_seat_2 : decode cX12_seat 2 = .ok (.putfield 39, 3) := by decide +kernel
theorem dX12_seat_5 : decode cX12_seat 5 = .ok (.aload_n 0, 1) := by decide +kernel
theorem dX12_seat_6 : decode cX12_seat 6 = .ok (.iload_n 1, 1) := by decide +kernel
theorem dX12_seat_7 : decode cX12_seat 7 = .ok (.invokevirtual 309, 3) := by decide +kernel
theorem dX12_seat_10 : decode cX12_seat 10 = .ok (.ifCond .eq 16, 3) := by decide +kernel
theorem dX12_seat_13 : decode cX12_seat 13 = .ok (.aload_n 0, 1) := by decide +kernel
theorem dX12_seat_14 : decode cX12_seat 14 = .ok (.aload_n 0, 1) := by decide +kernel
theorem dX12_seat_15 : decode cX12_seat 15 = .ok (.getfield 17, 3) := by decide +kernel
theorem dX12_seat_18 : decode cX12_seat 18 = .ok (.iload_n 1, 1) := by decide +kernel
theorem dX12_seat_19 : decode cX12_seat 19 = .ok (.iaload, 1) := by decide +kernel
theorem dX12_seat_20 : decode cX12_seat 20 = .ok (.invokevirtual 49, 3) := by decide +kernel
theorem dX12_seat_23 : decode cX12_seat 23 = .ok (.goto 8, 3) := by decide +kernel
theorem dX12_seat_26 : decode cX12_seat 26 = .ok (.aload_n 0, 1) := by decide +kernel
theorem dX12_seat_27 : decode cX12_seat 27 = .ok (.iconst 1, 1) := by decide +kernel
theorem dX12_seat_28 : decode cX12_seat 28 = .ok (.invokevirtual 45, 3) := by decide +kernel
theorem dX12_seat_31 : decode cX12_seat 31 = .ok (.ireturn, 1) := by decide +kernel
theorem dX12_pair_0 : decode cX12_pair 0 = .ok (.aload_n 0, 1) := by decide +kernel
theorem dX12_pair_1 : decode cX12_pair 1 = .ok (.iconst 0, 1) := by decide +kernel
theorem dX12_pair_2 : decode cX12_pair 2 = .ok (.putfield 39, 3) := by decide +kernel
theorem dX12_pair_5 : decode cX12_pair 5 = .ok (.aload_n 0, 1) := by decide +kernel
theorem dX12_pair_6 : decode cX12_pair 6 = .ok (.iload_n 1, 1) := by decide +kernel
theorem dX12_pair_7 : decode cX12_pair 7 = .ok (.invokevirtual 330, 3) := by decide +kernel
theorem dX12_pair_10 : decode cX12_pair 10 = .ok (.ifCond .eq 13, 3) := by decide +kernel
theorem dX12_pair_13 : decode cX12_pair 13 = .ok (.iload_n 2, 1) := by decide +kernel
theorem dX12_pair_14 : decode cX12_pair 14 = .ok (.iconst 0, 1) := by decide +kernel
theorem dX12_pair_15 : decode cX12_pair 15 = .ok (.bipush 7, 2) := by decide +kernel
theorem dX12_pair_17 : decode cX12_pair 17 = .ok (.invokestatic 118, 3) := by decide +kernel
theorem dX12_pair_20 : decode cX12_pair 20 = .ok (.ifCond .ne 9, 3) := by decide +kernel
theorem dX12_pair_23 : decode cX12_pair 23 = .ok (.aload_n 0, 1) := by decide +kernel
theorem dX12_pair_24 : decode cX12_pair 24 = .ok (.iconst 1, 1) := by decide +kernel
theorem dX12_pair_25 : decode cX12_pair 25 = .ok (.invokevirtual 45, 3) := by decide +kernel
theorem dX12_pair_28 : decode cX12_pair 28 = .ok (.ireturn, 1) := by decide +kernel
theorem dX12_pair_29 : decode cX12_pair 29 = .ok (.aload_n 0, 1) := by decide +kernel
theorem dX12_pair_30 : decode cX12_pair 30 = .ok (.invokevirtual 333, 3) := by decide +kernel
theorem dX12_pair_33 : decode cX12_pair 33 = .ok (.iload_n 2, 1) := by decide +kernel
theorem dX12_pair_34 : decode cX12_pair 34 = .ok (.tableswitch 139 0 6 #[42, 55, 69, 83, 93, 107, 121], 42) := by decide +kernel
theorem dX12_pair_76 : decode cX12_pair 76 = .ok (.aload_n 0, 1) := by decide +kernel
theorem dX12_pair_77 : decode cX12_pair 77 = .ok (.aload_n 0, 1) := by decide +kernel
theorem dX12_pair_78 : decode cX12_pair 78 = .ok (.getfield 21, 3) := by decide +kernel
theorem dX12_pair_81 : decode cX12_pair 81 = .ok (.iconst 5, 1) := by decide +kernel
theorem dX12_pair_82 : decode cX12_pair 82 = .ok (.iload_n 1, 1) := by decide +kernel
theorem dX12_pair_83 : decode cX12_pair 83 = .ok (.iadd, 1) := by decide +kernel
theorem dX12_pair_84 : decode cX12_pair 84 = .ok (.iaload, 1) := by decide +kernel
theorem dX12_pair_85 : decode cX12_pair 85 = .ok (.invokevirtual 49, 3) := by decide +kernel
theorem dX12_pair_88 : decode cX12_pair 88 = .ok (.ireturn, 1) := by decide +kernel
theorem dX12_pair_89 : decode cX12_pair 89 = .ok (.aload_n 0, 1) := by decide +kernel
theorem dX12_pair_90 : decode cX12_pair 90 = .ok (.aload_n 0, 1) := by decide +kernel
theorem dX12_pair_91 : decode cX12_pair 91 = .ok (.getfield 21, 3) := by decide +kernel
theorem dX12_pair_94 : decode cX12_pair 94 = .ok (.bipush 15, 2) := by decide +kernel
theorem dX12_pair_96 : decode cX12_pair 96 = .ok (.iload_n 1, 1) := by decide +kernel
theorem dX12_pair_97 : decode cX12_pair 97 = .ok (.iadd, 1) := by decide +kernel
theorem dX12_pair_98 : decode cX12_pair 98 = .ok (.iaload, 1) := by decide +kernel
theorem dX12_pair_99 : decode cX12_pair 99 = .ok (.invokevirtual 49, 3) := by decide +kernel
theorem dX12_pair_102 : decode cX12_pair 102 = .ok (.ireturn, 1) := by decide +kernel
theorem dX12_pair_103 : decode cX12_pair 103 = .ok (.aload_n 0, 1) := by decide +kernel
theorem dX12_pair_104 : decode cX12_pair 104 = .ok (.aload_n 0, 1) := by decide +kernel
theorem dX12_pair_105 : decode cX12_pair 105 = .ok (.getfield 21, 3) := by decide +kernel
theorem dX12_pair_108 : decode cX12_pair 108 = .ok (.bipush 25, 2) := by decide +kernel
theorem dX12_pair_110 : decode cX12_pair 110 = .ok (.iload_n 1, 1) := by decide +kernel
theorem dX12_pair_111 : decode cX12_pair 111 = .ok (.iadd, 1) := by decide +kernel
theorem dX12_pair_112 : decode cX12_pair 112 = .ok (.iaload, 1) := by decide +kernel
theorem dX12_pair_113 : decode cX12_pair 113 = .ok (.invokevirtual 49, 3) := by decide +kernel
theorem dX12_pair_116 : decode cX12_pair 116 = .ok (.ireturn, 1) := by decide +kernel
theorem dX12_pair_117 : decode cX12_pair 117 = .ok (.aload_n 0, 1) := by decide +kernel
theorem dX12_pair_118 : decode cX12_pair 118 = .ok (.aload_n 0, 1) := by decide +kernel
theorem dX12_pair_119 : decode cX12_pair 119 = .ok (.iload_n 1, 1) := by decide +kernel
theorem dX12_pair_120 : decode cX12_pair 120 = .ok (.invokevirtual 321, 3) := by decide +kernel
theorem dX12_pair_123 : decode cX12_pair 123 = .ok (.invokevirtual 49, 3) := by decide +kernel
theorem dX12_pair_126 : decode cX12_pair 126 = .ok (.ireturn, 1) := by decide +kernel
theorem dX12_pair_127 : decode cX12_pair 127 = .ok (.aload_n 0, 1) := by decide +kernel
theorem dX12_pair_128 : decode cX12_pair 128 = .ok (.aload_n 0, 1) := by decide +kernel
theorem dX12_pair_129 : decode cX12_pair 129 = .ok (.getfield 21, 3) := by decide +kernel
theorem dX12_pair_132 : decode cX12_pair 132 = .ok (.bipush 45, 2) := by decide +kernel
theorem dX12_pair_134 : decode cX12_pair 134 = .ok (.iload_n 1, 1) := by decide +kernel
theorem dX12_pair_135 : decode cX12_pair 135 = .ok (.iadd, 1) := by decide +kernel
theorem dX12_pair_136 : decode cX12_pair 136 = .ok (.iaload, 1) := by decide +kernel
theorem dX12_pair_137 : decode cX12_pair 137 = .ok (.invokevirtual 49, 3) := by decide +kernel
theorem dX12_pair_140 : decode cX12_pair 140 = .ok (.ireturn, 1) := by decide +kernel
theorem dX12_pair_141 : decode cX12_pair 141 = .ok (.aload_n 0, 1) := by decide +kernel
theorem dX12_pair_142 : decode cX12_pair 142 = .ok (.aload_n 0, 1) := by decide +kernel
theorem dX12_pair_143 : decode cX12_pair 143 = .ok (.getfield 21, 3) := by decide +kernel
theorem dX12_pair_146 : decode cX12_pair 146 = .ok (.bipush 35, 2) := by decide +kernel
theorem dX12_pair_148 : decode cX12_pair 148 = .ok (.iload_n 1, 1) := by decide +kernel
theorem dX12_pair_149 : decode cX12_pair 149 = .ok (.iadd, 1) := by decide +kernel
theorem dX12_pair_150 : decode cX12_pair 150 = .ok (.iaload, 1) := by decide +kernel
theorem dX12_pair_151 : decode cX12_pair 151 = .ok (.invokevirtual 49, 3) := by decide +kernel
theorem dX12_pair_154 : decode cX12_pair 154 = .ok (.ireturn, 1) := by decide +kernel
theorem dX12_pair_155 : decode cX12_pair 155 = .ok (.aload_n 0, 1) := by decide +kernel
theorem dX12_pair_156 : decode cX12_pair 156 = .ok (.aload_n 0, 1) := by decide +kernel
theorem dX12_pair_157 : decode cX12_pair 157 = .ok (.iload_n 1, 1) := by decide +kernel
theorem dX12_pair_158 : decode cX12_pair 158 = .ok (.invokevirtual 336, 3) := by decide +kernel
theorem dX12_pair_161 : decode cX12_pair 161 = .ok (.ifCond .eq 7, 3) := by decide +kernel
theorem dX12_pair_164 : decode cX12_pair 164 = .ok (.iconst 1, 1) := by decide +kernel
theorem dX12_pair_165 : decode cX12_pair 165 = .ok (.goto 4, 3) := by decide +kernel
theorem dX12_pair_168 : decode cX12_pair 168 = .ok (.iconst 0, 1) := by decide +kernel
theorem dX12_pair_169 : decode cX12_pair 169 = .ok (.invokevirtual 49, 3) := by decide +kernel
theorem dX12_pair_172 : decode cX12_pair 172 = .ok (.ireturn, 1) := by decide +kernel
theorem dX12_pair_173 : decode cX12_pair 173 = .ok (.aload_n 0, 1) := by decide +kernel
theorem dX12_pair_174 : decode cX12_pair 174 = .ok (.aload_n 0, 1) := by decide +kernel
theorem dX12_pair_175 : decode cX12_pair 175 = .ok (.iload_n 1, 1) := by decide +kernel
theorem dX12_pair_176 : decode cX12_pair 176 = .ok (.invokevirtual 339, 3) := by decide +kernel
theorem dX12_pair_179 : decode cX12_pair 179 = .ok (.invokevirtual 49, 3) := by decide +kernel
theorem dX12_pair_182 : decode cX12_pair 182 = .ok (.ireturn, 1) := by decide +kernel
theorem dX12_pairOf_0 : decode cX12_pairOf 0 = .ok (.aload_n 0, 1) := by decide +kernel
theorem dX12_pairOf_1 : decode cX12_pairOf 1 = .ok (.iconst 0, 1) := by decide +kernel
theorem dX12_pairOf_2 : decode cX12_pairOf 2 = .ok (.putfield 39, 3) := by decide +kernel
theorem dX12_pairOf_5 : decode cX12_pairOf 5 = .ok (.aload_n 0, 1) := by decide +kernel
theorem dX12_pairOf_6 : decode cX12_pairOf 6 = .ok (.iload_n 1, 1) := by decide +kernel
theorem dX12_pairOf_7 : decode cX12_pairOf 7 = .ok (.iload_n 2, 1) := by decide +kernel
theorem dX12_pairOf_8 : decode cX12_pairOf 8 = .ok (.invokevirtual 342, 3) := by decide +kernel
theorem dX12_pairOf_11 : decode cX12_pairOf 11 = .ok (.ifCond .ne 9, 3) := by decide +kernel
theorem dX12_pairOf_14 : decode cX12_pairOf 14 = .ok (.aload_n 0, 1) := by decide +kernel
theorem dX12_pairOf_15 : decode cX12_pairOf 15 = .ok (.iconst 1, 1) := by decide +kernel
theorem dX12_pairOf_16 : decode cX12_pairOf 16 = .ok (.invokevirtual 45, 3) := by decide +kernel
theorem dX12_pairOf_19 : decode cX12_pairOf 19 = .ok (.ireturn, 1) := by decide +kernel
theorem dX12_pairOf_20 : decode cX12_pairOf 20 = .ok (.aload_n 0, 1) := by decide +kernel
theorem dX12_pairOf_21 : decode cX12_pairOf 21 = .ok (.invokevirtual 333, 3) := by decide +kernel
theorem dX12_pairOf_24 : decode cX12_pairOf 24 = .ok (.aload_n 0, 1) := by decide +kernel
theorem dX12_pairOf_25 : decode cX12_pairOf 25 = .ok (.aload_n 0, 1) := by decide +kernel
theorem dX12_pairOf_26 : decode cX12_pairOf 26 = .ok (.iload_n 1, 1) := by decide +kernel
theorem dX12_pairOf_27 : decode cX12_pairOf 27 = .ok (.iload_n 2, 1) := by decide +kernel
theorem dX12_pairOf_28 : decode cX12_pairOf 28 = .ok (.invokevirtual 345, 3) := by decide +kernel
theorem dX12_pairOf_31 : decode cX12_pairOf 31 = .ok (.invokevirtual 49, 3) := by decide +kernel
theorem dX12_pairOf_34 : decode cX12_pairOf 34 = .ok (.ireturn, 1) := by decide +kernel
theorem dX12_feedersOf_0 : decode cX12_feedersOf 0 = .ok (.iconst 0, 1) := by decide +kernel
theorem dX12_feedersOf_1 : decode cX12_feedersOf 1 = .ok (.istore_n 2, 1) := by decide +kernel
theorem dX12_feedersOf_2 : decode cX12_feedersOf 2 = .ok (.iconst 0, 1) := by decide +kernel
theorem dX12_feedersOf_3 : decode cX12_feedersOf 3 = .ok (.istore_n 3, 1) := by decide +kernel
theorem dX12_feedersOf_4 : decode cX12_feedersOf 4 = .ok (.iload_n 3, 1) := by decide +kernel
theorem dX12_feedersOf_5 : decode cX12_feedersOf 5 = .ok (.aload_n 0, 1) := by decide +kernel
theorem dX12_feedersOf_6 : decode cX12_feedersOf 6 = .ok (.getfield 21, 3) := by decide +kernel
theorem dX12_feedersOf_9 : decode cX12_feedersOf 9 = .ok (.bipush 55, 2) := by decide +kernel
theorem dX12_feedersOf_11 : decode cX12_feedersOf 11 = .ok (.iaload, 1) := by decide +kernel
theorem dX12_feedersOf_12 : decode cX12_feedersOf 12 = .ok (.if_icmp .ge 51, 3) := by decide +kernel
theorem dX12_feedersOf_15 : decode cX12_feedersOf 15 = .ok (.aload_n 0, 1) := by decide +kernel
theorem dX12_feedersOf_16 : decode cX12_feedersOf 16 = .ok (.iload_n 3, 1) := by decide +kernel
theorem dX12_feedersOf_17 : decode cX12_feedersOf 17 = .ok (.iload_n 1, 1) := by decide +kernel
theorem dX12_feedersOf_18 : decode cX12_feedersOf 18 = .ok (.invokevirtual 327, 3) := by decide +kernel
theorem dX12_feedersOf_21 : decode cX12_feedersOf 21 = .ok (.ifCond .eq 36, 3) := by decide +kernel
theorem dX12_feedersOf_24 : decode cX12_feedersOf 24 = .ok (.aload_n 0, 1) := by decide +kernel
theorem dX12_feedersOf_25 : decode cX12_feedersOf 25 = .ok (.iload_n 3, 1) := by decide +kernel
theorem dX12_feedersOf_26 : decode cX12_feedersOf 26 = .ok (.invokevirtual 336, 3) := by decide +kernel
theorem dX12_feedersOf_29 : decode cX12_feedersOf 29 = .ok (.ifCond .eq 28, 3) := by decide +kernel
theorem dX12_feedersOf_32 : decode cX12_feedersOf 32 = .ok (.iload_n 2, 1) := by decide +kernel
theorem dX12_feedersOf_33 : decode cX12_feedersOf 33 = .ok (.iconst 1, 1) := by decide +kernel
theorem dX12_feedersOf_34 : decode cX12_feedersOf 34 = .ok (.aload_n 0, 1) := by decide +kernel
theorem dX12_feedersOf_35 : decode cX12_feedersOf 35 = .ok (.getfield 21, 3) := by decide +kernel
theorem dX12_feedersOf_38 : decode cX12_feedersOf 38 = .ok (.iconst 5, 1) := by decide +kernel
theorem dX12_feedersOf_39 : decode cX12_feedersOf 39 = .ok (.iload_n 3, 1) := by decide +kernel
theorem dX12_feedersOf_40 : decode cX12_feedersOf 40 = .ok (.iadd, 1) := by decide +kernel
theorem dX12_feedersOf_41 : decode cX12_feedersOf 41 = .ok (.iaload, 1) := by decide +kernel
theorem dX12_feedersOf_42 : decode cX12_feedersOf 42 = .ok (.aload_n 0, 1) := by decide +kernel
theorem dX12_feedersOf_43 : decode cX12_feedersOf 43 = .ok (.getfield 21, 3) := by decide +kernel
theorem dX12_feedersOf_46 : decode cX12_feedersOf 46 = .ok (.bipush 15, 2) := by decide +kernel
theorem dX12_feedersOf_48 : decode cX12_feedersOf 48 = .ok (.iload_n 3, 1) := by decide +kernel
theorem dX12_feedersOf_49 : decode cX12_feedersOf 49 = .ok (.iadd, 1) := by decide +kernel
theorem dX12_feedersOf_50 : decode cX12_feedersOf 50 = .ok (.iaload, 1) := by decide +kernel
theorem dX12_feedersOf_51 : decode cX12_feedersOf 51 = .ok (.iadd, 1) := by decide +kernel
theorem dX12_feedersOf_52 : decode cX12_feedersOf 52 = .ok (.iload_n 1, 1) := by decide +kernel
theorem dX12_feedersOf_53 : decode cX12_feedersOf 53 = .ok (.isub, 1) := by decide +kernel
theorem dX12_feedersOf_54 : decode cX12_feedersOf 54 = .ok (.ishl, 1) := by decide +kernel
theorem dX12_feedersOf_55 : decode cX12_feedersOf 55 = .ok (.ior, 1) := by decide +kernel
theorem dX12_feedersOf_56 : decode cX12_feedersOf 56 = .ok (.istore_n 2, 1) := by decide +kernel
theorem dX12_feedersOf_57 : decode cX12_feedersOf 57 = .ok (.iinc 3 1, 3) := by decide +kernel
theorem dX12_feedersOf_60 : decode cX12_feedersOf 60 = .ok (.goto (-56), 3) := by decide +kernel
theorem dX12_feedersOf_63 : decode cX12_feedersOf 63 = .ok (.iload_n 2, 1) := by decide +kernel
theorem dX12_feedersOf_64 : decode cX12_feedersOf 64 = .ok (.ireturn, 1) := by decide +kernel
theorem dX12_feeders_0 : decode cX12_feeders 0 = .ok (.aload_n 0, 1) := by decide +kernel
theorem dX12_feeders_1 : decode cX12_feeders 1 = .ok (.iconst 0, 1) := by decide +kernel
theorem dX12_feeders_2 : decode cX12_feeders 2 = .ok (.putfield 39, 3) := by decide +kernel
theorem dX12_feeders_5 : decode cX12_feeders 5 = .ok (.aload_n 0, 1) := by decide +kernel
theorem dX12_feeders_6 : decode cX12_feeders 6 = .ok (.iload_n 1, 1) := by decide +kernel
theorem dX12_feeders_7 : decode cX12_feeders 7 = .ok (.invokevirtual 309, 3) := by decide +kernel
theorem dX12_feeders_10 : decode cX12_feeders 10 = .ok (.ifCond .ne 9, 3) := by decide +kernel
theorem dX12_feeders_13 : decode cX12_feeders 13 = .ok (.aload_n 0, 1) := by decide +kernel
theorem dX12_feeders_14 : decode cX12_feeders 14 = .ok (.iconst 1, 1) := by decide +kernel
theorem dX12_feeders_15 : decode cX12_feeders 15 = .ok (.invokevirtual 45, 3) := by decide +kernel
theorem dX12_feeders_18 : decode cX12_feeders 18 = .ok (.ireturn, 1) := by decide +kernel
theorem dX12_feeders_19 : decode cX12_feeders 19 = .ok (.aload_n 0, 1) := by decide +kernel
theorem dX12_feeders_20 : decode cX12_feeders 20 = .ok (.invokevirtual 333, 3) := by decide +kernel
theorem dX12_feeders_23 : decode cX12_feeders 23 = .ok (.aload_n 0, 1) := by decide +kernel
theorem dX12_feeders_24 : decode cX12_feeders 24 = .ok (.aload_n 0, 1) := by decide +kernel
theorem dX12_feeders_25 : decode cX12_feeders 25 = .ok (.iload_n 1, 1) := by decide +kernel
theorem dX12_feeders_26 : decode cX12_feeders 26 = .ok (.invokevirtual 348, 3) := by decide +kernel
theorem dX12_feeders_29 : decode cX12_feeders 29 = .ok (.invokevirtual 49, 3) := by decide +kernel
theorem dX12_feeders_32 : decode cX12_feeders 32 = .ok (.ireturn, 1) := by decide +kernel
theorem dX12_forks_0 : decode cX12_forks 0 = .ok (.aload_n 0, 1) := by decide +kernel
theorem dX12_forks_1 : decode cX12_forks 1 = .ok (.iconst 0, 1) := by decide +kernel
theorem dX12_forks_2 : decode cX12_forks 2 = .ok (.putfield 39, 3) := by decide +kernel
theorem dX12_forks_5 : decode cX12_forks 5 = .ok (.aload_n 0, 1) := by decide +kernel
theorem dX12_forks_6 : decode cX12_forks 6 = .ok (.iload_n 1, 1) := by decide +kernel
theorem dX12_forks_7 : decode cX12_forks 7 = .ok (.iload_n 2, 1) := by decide +kernel
theorem dX12_forks_8 : decode cX12_forks 8 = .ok (.invokevirtual 342, 3) := by decide +kernel
theorem dX12_forks_11 : decode cX12_forks 11 = .ok (.ifCond .ne 9, 3) := by decide +kernel
theorem dX12_forks_14 : decode cX12_forks 14 = .ok (.aload_n 0, 1) := by decide +kernel
theorem dX12_forks_15 : decode cX12_forks 15 = .ok (.iconst 1, 1) := by decide +kernel
theorem dX12_forks_16 : decode cX12_forks 16 = .ok (.invokevirtual 45, 3) := by decide +kernel
theorem dX12_forks_19 : decode cX12_forks 19 = .ok (.ireturn, 1) := by decide +kernel
theorem dX12_forks_20 : decode cX12_forks 20 = .ok (.aload_n 0, 1) := by decide +kernel
theorem dX12_forks_21 : decode cX12_forks 21 = .ok (.invokevirtual 333, 3) := by decide +kernel
theorem dX12_forks_24 : decode cX12_forks 24 = .ok (.aload_n 0, 1) := by decide +kernel
theorem dX12_forks_25 : decode cX12_forks 25 = .ok (.aload_n 0, 1) := by decide +kernel
theorem dX12_forks_26 : decode cX12_forks 26 = .ok (.iload_n 1, 1) := by decide +kernel
theorem dX12_forks_27 : decode cX12_forks 27 = .ok (.iload_n 2, 1) := by decide +kernel
theorem dX12_forks_28 : decode cX12_forks 28 = .ok (.invokevirtual 318, 3) := by decide +kernel
theorem dX12_forks_31 : decode cX12_forks 31 = .ok (.invokevirtual 49, 3) := by decide +kernel
theorem dX12_forks_34 : decode cX12_forks 34 = .ok (.ireturn, 1) := by decide +kernel
theorem dX12_tries_0 : decode cX12_tries 0 = .ok (.aload_n 0, 1) := by decide +kernel
theorem dX12_tries_1 : decode cX12_tries 1 = .ok (.dup, 1) := by decide +kernel
theorem dX12_tries_2 : decode cX12_tries 2 = .ok (.getfield 351, 3) := by decide +kernel
theorem dX12_tries_5 : decode cX12_tries 5 = .ok (.iconst 1, 1) := by decide +kernel
theorem dX12_tries_6 : decode cX12_tries 6 = .ok (.iadd, 1) := by decide +kernel
theorem dX12_tries_7 : decode cX12_tries 7 = .ok (.putfield 351, 3) := by decide +kernel
theorem dX12_tries_10 : decode cX12_tries 10 = .ok (.iload_n 1, 1) := by decide +kernel
theorem dX12_tries_11 : decode cX12_tries 11 = .ok (.invokestatic 234, 3) := by decide +kernel
theorem dX12_tries_14 : decode cX12_tries 14 = .ok (.aload_n 0, 1) := by decide +kernel
theorem dX12_tries_15 : decode cX12_tries 15 = .ok (.getfield 354, 3) := by decide +kernel
theorem dX12_tries_18 : decode cX12_tries 18 = .ok (.invokestatic 234, 3) := by decide +kernel
theorem dX12_tries_21 : decode cX12_tries 21 = .ok (.isub, 1) := by decide +kernel
theorem dX12_tries_22 : decode cX12_tries 22 = .ok (.istore_n 3, 1) := by decide +kernel
theorem dX12_tries_23 : decode cX12_tries 23 = .ok (.iload_n 3, 1) := by decide +kernel
theorem dX12_tries_24 : decode cX12_tries 24 = .ok (.ifCond .lt 31, 3) := by decide +kernel
theorem dX12_tries_27 : decode cX12_tries 27 = .ok (.iload_n 3, 1) := by decide +kernel
theorem dX12_tries_28 : decode cX12_tries 28 = .ok (.ifCond .ne 28, 3) := by decide +kernel
theorem dX12_tries_31 : decode cX12_tries 31 = .ok (.iload_n 2, 1) := by decide +kernel
theorem dX12_tries_32 : decode cX12_tries 32 = .ok (.aload_n 0, 1) := by decide +kernel
theorem dX12_tries_33 : decode cX12_tries 33 = .ok (.getfield 357, 3) := by decide +kernel
theorem dX12_tries_36 : decode cX12_tries 36 = .ok (.if_icmp .gt 19, 3) := by decide +kernel
theorem dX12_tries_39 : decode cX12_tries 39 = .ok (.iload_n 2, 1) := by decide +kernel
theorem dX12_tries_40 : decode cX12_tries 40 = .ok (.aload_n 0, 1) := by decide +kernel
theorem dX12_tries_41 : decode cX12_tries 41 = .ok (.getfield 357, 3) := by decide +kernel
theorem dX12_tries_44 : decode cX12_tries 44 = .ok (.if_icmp .ne 12, 3) := by decide +kernel
theorem dX12_tries_47 : decode cX12_tries 47 = .ok (.iload_n 1, 1) := by decide +kernel
theorem dX12_tries_48 : decode cX12_tries 48 = .ok (.aload_n 0, 1) := by decide +kernel
theorem dX12_tries_49 : decode cX12_tries 49 = .ok (.getfield 354, 3) := by decide +kernel
theorem dX12_tries_52 : decode cX12_tries 52 = .ok (.if_icmp .lt 4, 3) := by decide +kernel
theorem dX12_tries_55 : decode cX12_tries 55 = .ok (.return_, 1) := by decide +kernel
theorem dX12_tries_56 : decode cX12_tries 56 = .ok (.aload_n 0, 1) := by decide +kernel
theorem dX12_tries_57 : decode cX12_tries 57 = .ok (.iload_n 1, 1) := by decide +kernel
theorem dX12_tries_58 : decode cX12_tries 58 = .ok (.putfield 354, 3) := by decide +kernel
theorem dX12_tries_61 : decode cX12_tries 61 = .ok (.aload_n 0, 1) := by decide +kernel
theorem dX12_tries_62 : decode cX12_tries 62 = .ok (.iload_n 2, 1) := by decide +kernel
theorem dX12_tries_63 : decode cX12_tries 63 = .ok (.putfield 357, 3) := by decide +kernel
theorem dX12_tries_66 : decode cX12_tries 66 = .ok (.return_, 1) := by decide +kernel
theorem dX12_matching_0 : decode cX12_matching 0 = .ok (.aload_n 0, 1) := by decide +kernel
theorem dX12_matching_1 : decode cX12_matching 1 = .ok (.iconst 0, 1) := by decide +kernel
theorem dX12_matching_2 : decode cX12_matching 2 = .ok (.putfield 354, 3) := by decide +kernel
theorem dX12_matching_5 : decode cX12_matching 5 = .ok (.aload_n 0, 1) := by decide +kernel
theorem dX12_matching_6 : decode cX12_matching 6 = .ok (.iconst 0, 1) := by decide +kernel
theorem dX12_matching_7 : decode cX12_matching 7 = .ok (.putfield 357, 3) := by decide +kernel
theorem dX12_matching_10 : decode cX12_matching 10 = .ok (.aload_n 0, 1) := by decide +kernel
theorem dX12_matching_11 : decode cX12_matching 11 = .ok (.iconst 1, 1) := by decide +kernel
theorem dX12_matching_12 : decode cX12_matching 12 = .ok (.putfield 351, 3) := by decide +kernel
theorem dX12_matching_15 : decode cX12_matching 15 = .ok (.iconst 0, 1) := by decide +kernel
theorem dX12_matching_16 : decode cX12_matching 16 = .ok (.istore_n 1, 1) := by decide +kernel
theorem dX12_matching_17 : decode cX12_matching 17 = .ok (.iload_n 1, 1) := by decide +kernel
theorem dX12_matching_18 : decode cX12_matching 18 = .ok (.aload_n 0, 1) := by decide +kernel
theorem dX12_matching_19 : decode cX12_matching 19 = .ok (.getfield 21, 3) := by decide +kernel
theorem dX12_matching_22 : decode cX12_matching 22 = .ok (.bipush 55, 2) := by decide +kernel
theorem dX12_matching_24 : decode cX12_matching 24 = .ok (.iaload, 1) := by decide +kernel
theorem dX12_matching_25 : decode cX12_matching 25 = .ok (.if_icmp .ge 32, 3) := by decide +kernel
theorem dX12_matching_28 : decode cX12_matching 28 = .ok (.aload_n 0, 1) := by decide +kernel
theorem dX12_matching_29 : decode cX12_matching 29 = .ok (.getfield 30, 3) := by decide +kernel
theorem dX12_matching_32 : decode cX12_matching 32 = .ok (.iload_n 1, 1) := by decide +kernel
theorem dX12_matching_33 : decode cX12_matching 33 = .ok (.aload_n 0, 1) := by decide +kernel
theorem dX12_matching_34 : decode cX12_matching 34 = .ok (.iload_n 1, 1) := by decide +kernel
theorem dX12_matching_35 : decode cX12_matching 35 = .ok (.invokevirtual 336, 3) := by decide +kernel
theorem dX12_matching_38 : decode cX12_matching 38 = .ok (.ifCond .eq 11, 3) := by decide +kernel
theorem dX12_matching_41 : decode cX12_matching 41 = .ok (.aload_n 0, 1) := by decide +kernel
theorem dX12_matching_42 : decode cX12_matching 42 = .ok (.iload_n 1, 1) := by decide +kernel
theorem dX12_matching_43 : decode cX12_matching 43 = .ok (.invokevirtual 339, 3) := by decide +kernel
theorem dX12_matching_46 : decode cX12_matching 46 = .ok (.goto 4, 3) := by decide +kernel
theorem dX12_matching_49 : decode cX12_matching 49 = .ok (.iconst (-1), 1) := by decide +kernel
theorem dX12_matching_50 : decode cX12_matching 50 = .ok (.iastore, 1) := by decide +kernel
theorem dX12_matching_51 : decode cX12_matching 51 = .ok (.iinc 1 1, 3) := by decide +kernel
theorem dX12_matching_54 : decode cX12_matching 54 = .ok (.goto (-37), 3) := by decide +kernel
theorem dX12_matching_57 : decode cX12_matching 57 = .ok (.iconst 0, 1) := by decide +kernel
theorem dX12_matching_58 : decode cX12_matching 58 = .ok (.istore_n 1, 1) := by decide +kernel
theorem dX12_matching_59 : decode cX12_matching 59 = .ok (.iload_n 1, 1) := by decide +kernel
theorem dX12_matching_60 : decode cX12_matching 60 = .ok (.aload_n 0, 1) := by decide +kernel
theorem dX12_matching_61 : decode cX12_matching 61 = .ok (.getfield 21, 3) := by decide +kernel
theorem dX12_matching_64 : decode cX12_matching 64 = .ok (.bipush 55, 2) := by decide +kernel
theorem dX12_matching_66 : decode cX12_matching 66 = .ok (.iaload, 1) := by decide +kernel
theorem dX12_matching_67 : decode cX12_matching 67 = .ok (.if_icmp .ge 99, 3) := by decide +kernel
theorem dX12_matching_70 : decode cX12_matching 70 = .ok (.aload_n 0, 1) := by decide +kernel
theorem dX12_matching_71 : decode cX12_matching 71 = .ok (.getfield 30, 3) := by decide +kernel
theorem dX12_matching_74 : decode cX12_matching 74 = .ok (.iload_n 1, 1) := by decide +kernel
theorem dX12_matching_75 : decode cX12_matching 75 = .ok (.iaload, 1) := by decide +kernel
theorem dX12_matching_76 : decode cX12_matching 76 = .ok (.iconst (-1), 1) := by decide +kernel
theorem dX12_matching_77 : decode cX12_matching 77 = .ok (.if_icmp .ne 6, 3) := by decide +kernel
theorem dX12_matching_80 : decode cX12_matching 80 = .ok (.goto 80, 3) := by decide +kernel
theorem dX12_matching_83 : decode cX12_matching 83 = .ok (.aload_n 0, 1) := by decide +kernel
theorem dX12_matching_84 : decode cX12_matching 84 = .ok (.iconst 1, 1) := by decide +kernel
theorem dX12_matching_85 : decode cX12_matching 85 = .ok (.iload_n 1, 1) := by decide +kernel
theorem dX12_matching_86 : decode cX12_matching 86 = .ok (.ishl, 1) := by decide +kernel
theorem dX12_matching_87 : decode cX12_matching 87 = .ok (.aload_n 0, 1) := by decide +kernel
theorem dX12_matching_88 : decode cX12_matching 88 = .ok (.getfield 30, 3) := by decide +kernel
theorem dX12_matching_91 : decode cX12_matching 91 = .ok (.iload_n 1, 1) := by decide +kernel
theorem dX12_matching_92 : decode cX12_matching 92 = .ok (.iaload, 1) := by decide +kernel
theorem dX12_matching_93 : decode cX12_matching 93 = .ok (.invokevirtual 360, 3) := by decide +kernel
theorem dX12_matching_96 : decode cX12_matching 96 = .ok (.iload_n 1, 1) := by decide +kernel
theorem dX12_matching_97 : decode cX12_matching 97 = .ok (.iconst 1, 1) := by decide +kernel
theorem dX12_matching_98 : decode cX12_matching 98 = .ok (.iadd, 1) := by decide +kernel
theorem dX12_matching_99 : decode cX12_matching 99 = .ok (.istore_n 2, 1) := by decide +kernel
theorem dX12_matching_100 : decode cX12_matching 100 = .ok (.iload_n 2, 1) := by decide +kernel
theorem dX12_matching_101 : decode cX12_matching 101 = .ok (.aload_n 0, 1) := by decide +kernel
theorem dX12_matching_102 : decode cX12_matching 102 = .ok (.getfield 21, 3) := by decide +kernel
theorem dX12_matching_105 : decode cX12_matching 105 = .ok (.bipush 55, 2) := by decide +kernel
theorem dX12_matching_107 : decode cX12_matching 107 = .ok (.iaload, 1) := by decide +kernel
theorem dX12_matching_108 : decode cX12_matching 108 = .ok (.if_icmp .ge 52, 3) := by decide +kernel
theorem dX12_matching_111 : decode cX12_matching 111 = .ok (.aload_n 0, 1) := by decide +kernel
theorem dX12_matching_112 : decode cX12_matching 112 = .ok (.getfield 30, 3) := by decide +kernel
theorem dX12_matching_115 : decode cX12_matching 115 = .ok (.iload_n 2, 1) := by decide +kernel
theorem dX12_matching_116 : decode cX12_matching 116 = .ok (.iaload, 1) := by decide +kernel
theorem dX12_matching_117 : decode cX12_matching 117 = .ok (.iconst (-1), 1) := by decide +kernel
theorem dX12_matching_118 : decode cX12_matching 118 = .ok (.if_icmp .eq 36, 3) := by decide +kernel
theorem dX12_matching_121 : decode cX12_matching 121 = .ok (.aload_n 0, 1) := by decide +kernel
theorem dX12_matching_122 : decode cX12_matching 122 = .ok (.iload_n 1, 1) := by decide +kernel
theorem dX12_matching_123 : decode cX12_matching 123 = .ok (.iload_n 2, 1) := by decide +kernel
theorem dX12_matching_124 : decode cX12_matching 124 = .ok (.invokevirtual 363, 3) := by decide +kernel
theorem dX12_matching_127 : decode cX12_matching 127 = .ok (.ifCond .ne 27, 3) := by decide +kernel
theorem dX12_matching_130 : decode cX12_matching 130 = .ok (.aload_n 0, 1) := by decide +kernel
theorem dX12_matching_131 : decode cX12_matching 131 = .ok (.iconst 1, 1) := by decide +kernel
theorem dX12_matching_132 : decode cX12_matching 132 = .ok (.iload_n 1, 1) := by decide +kernel
theorem dX12_matching_133 : decode cX12_matching 133 = .ok (.ishl, 1) := by decide +kernel
theorem dX12_matching_134 : decode cX12_matching 134 = .ok (.iconst 1, 1) := by decide +kernel
theorem dX12_matching_135 : decode cX12_matching 135 = .ok (.iload_n 2, 1) := by decide +kernel
theorem dX12_matching_136 : decode cX12_matching 136 = .ok (.ishl, 1) := by decide +kernel
theorem dX12_matching_137 : decode cX12_matching 137 = .ok (.ior, 1) := by decide +kernel
theorem dX12_matching_138 : decode cX12_matching 138 = .ok (.aload_n 0, 1) := by decide +kernel
theorem dX12_matching_139 : decode cX12_matching 139 = .ok (.getfield 30, 3) := by decide +kernel
theorem dX12_matching_142 : decode cX12_matching 142 = .ok (.iload_n 1, 1) := by decide +kernel
theorem dX12_matching_143 : decode cX12_matching 143 = .ok (.iaload, 1) := by decide +kernel
theorem dX12_matching_144 : decode cX12_matching 144 = .ok (.aload_n 0, 1) := by decide +kernel
theorem dX12_matching_145 : decode cX12_matching 145 = .ok (.getfield 30, 3) := by decide +kernel
theorem dX12_matching_148 : decode cX12_matching 148 = .ok (.iload_n 2, 1) := by decide +kernel
theorem dX12_matching_149 : decode cX12_matching 149 = .ok (.iaload, 1) := by decide +kernel
theorem dX12_matching_150 : decode cX12_matching 150 = .ok (.iadd, 1) := by decide +kernel
theorem dX12_matching_151 : decode cX12_matching 151 = .ok (.invokevirtual 360, 3) := by decide +kernel
theorem dX12_matching_154 : decode cX12_matching 154 = .ok (.iinc 2 1, 3) := by decide +kernel
theorem dX12_matching_157 : decode cX12_matching 157 = .ok (.goto (-57), 3) := by decide +kernel
theorem dX12_matching_160 : decode cX12_matching 160 = .ok (.iinc 1 1, 3) := by decide +kernel
theorem dX12_matching_163 : decode cX12_matching 163 = .ok (.goto (-104), 3) := by decide +kernel
theorem dX12_matching_166 : decode cX12_matching 166 = .ok (.iconst 2, 1) := by decide +kernel
theorem dX12_matching_167 : decode cX12_matching 167 = .ok (.aload_n 0, 1) := by decide +kernel
theorem dX12_matching_168 : decode cX12_matching 168 = .ok (.getfield 354, 3) := by decide +kernel
theorem dX12_matching_171 : decode cX12_matching 171 = .ok (.invokestatic 234, 3) := by decide +kernel
theorem dX12_matching_174 : decode cX12_matching 174 = .ok (.imul, 1) := by decide +kernel
theorem dX12_matching_175 : decode cX12_matching 175 = .ok (.ireturn, 1) := by decide +kernel
theorem dX12_mateBy_0 : decode cX12_mateBy 0 = .ok (.iconst 0, 1) := by decide +kernel
theorem dX12_mateBy_1 : decode cX12_mateBy 1 = .ok (.istore_n 3, 1) := by decide +kernel
theorem dX12_mateBy_2 : decode cX12_mateBy 2 = .ok (.iload_n 3, 1) := by decide +kernel
theorem dX12_mateBy_3 : decode cX12_mateBy 3 = .ok (.aload_n 0, 1) := by decide +kernel
theorem dX12_mateBy_4 : decode cX12_mateBy 4 = .ok (.getfield 21, 3) := by decide +kernel
theorem dX12_mateBy_7 : decode cX12_mateBy 7 = .ok (.bipush 55, 2) := by decide +kernel
theorem dX12_mateBy_9 : decode cX12_mateBy 9 = .ok (.iaload, 1) := by decide +kernel
theorem dX12_mateBy_10 : decode cX12_mateBy 10 = .ok (.if_icmp .ge 47, 3) := by decide +kernel
theorem dX12_mateBy_13 : decode cX12_mateBy 13 = .ok (.iload_n 1, 1) := by decide +kernel
theorem dX12_mateBy_14 : decode cX12_mateBy 14 = .ok (.iload_n 3, 1) := by decide +kernel
theorem dX12_mateBy_15 : decode cX12_mateBy 15 = .ok (.invokestatic 237, 3) := by decide +kernel
theorem dX12_mateBy_18 : decode cX12_mateBy 18 = .ok (.ifCond .eq 33, 3) := by decide +kernel
theorem dX12_mateBy_21 : decode cX12_mateBy 21 = .ok (.aload_n 0, 1) := by decide +kernel
theorem dX12_mateBy_22 : decode cX12_mateBy 22 = .ok (.iload_n 3, 1) := by decide +kernel
theorem dX12_mateBy_23 : decode cX12_mateBy 23 = .ok (.iload_n 2, 1) := by decide +kernel
theorem dX12_mateBy_24 : decode cX12_mateBy 24 = .ok (.invokevirtual 327, 3) := by decide +kernel
theorem dX12_mateBy_27 : decode cX12_mateBy 27 = .ok (.ifCond .eq 24, 3) := by decide +kernel
theorem dX12_mateBy_30 : decode cX12_mateBy 30 = .ok (.aload_n 0, 1) := by decide +kernel
theorem dX12_mateBy_31 : decode cX12_mateBy 31 = .ok (.getfield 21, 3) := by decide +kernel
theorem dX12_mateBy_34 : decode cX12_mateBy 34 = .ok (.iconst 5, 1) := by decide +kernel
theorem dX12_mateBy_35 : decode cX12_mateBy 35 = .ok (.iload_n 3, 1) := by decide +kernel
theorem dX12_mateBy_36 : decode cX12_mateBy 36 = .ok (.iadd, 1) := by decide +kernel
theorem dX12_mateBy_37 : decode cX12_mateBy 37 = .ok (.iaload, 1) := by decide +kernel
theorem dX12_mateBy_38 : decode cX12_mateBy 38 = .ok (.aload_n 0, 1) := by decide +kernel
theorem dX12_mateBy_39 : decode cX12_mateBy 39 = .ok (.getfield 21, 3) := by decide +kernel
theorem dX12_mateBy_42 : decode cX12_mateBy 42 = .ok (.bipush 15, 2) := by decide +kernel
theorem dX12_mateBy_44 : decode cX12_mateBy 44 = .ok (.iload_n 3, 1) := by decide +kernel
theorem dX12_mateBy_45 : decode cX12_mateBy 45 = .ok (.iadd, 1) := by decide +kernel
theorem dX12_mateBy_46 : decode cX12_mateBy 46 = .ok (.iaload, 1) := by decide +kernel
theorem dX12_mateBy_47 : decode cX12_mateBy 47 = .ok (.iadd, 1) := by decide +kernel
theorem dX12_mateBy_48 : decode cX12_mateBy 48 = .ok (.iload_n 2, 1) := by decide +kernel
theorem dX12_mateBy_49 : decode cX12_mateBy 49 = .ok (.isub, 1) := by decide +kernel
theorem dX12_mateBy_50 : decode cX12_mateBy 50 = .ok (.ireturn, 1) := by decide +kernel
theorem dX12_mateBy_51 : decode cX12_mateBy 51 = .ok (.iinc 3 1, 3) := by decide +kernel
theorem dX12_mateBy_54 : decode cX12_mateBy 54 = .ok (.goto (-52), 3) := by decide +kernel
theorem dX12_mateBy_57 : decode cX12_mateBy 57 = .ok (.bipush (-2), 2) := by decide +kernel
theorem dX12_mateBy_59 : decode cX12_mateBy 59 = .ok (.ireturn, 1) := by decide +kernel
theorem dX12_fed_0 : decode cX12_fed 0 = .ok (.aload_n 0, 1) := by decide +kernel
theorem dX12_fed_1 : decode cX12_fed 1 = .ok (.iconst 0, 1) := by decide +kernel
theorem dX12_fed_2 : decode cX12_fed 2 = .ok (.putfield 39, 3) := by decide +kernel
theorem dX12_fed_5 : decode cX12_fed 5 = .ok (.aload_n 0, 1) := by decide +kernel
theorem dX12_fed_6 : decode cX12_fed 6 = .ok (.getfield 298, 3) := by decide +kernel
theorem dX12_fed_9 : decode cX12_fed 9 = .ok (.ifnonnull 9, 3) := by decide +kernel
theorem dX12_fed_12 : decode cX12_fed 12 = .ok (.aload_n 0, 1) := by decide +kernel
theorem dX12_fed_13 : decode cX12_fed 13 = .ok (.iconst 1, 1) := by decide +kernel
theorem dX12_fed_14 : decode cX12_fed 14 = .ok (.invokevirtual 45, 3) := by decide +kernel
theorem dX12_fed_17 : decode cX12_fed 17 = .ok (.ireturn, 1) := by decide +kernel
theorem dX12_fed_18 : decode cX12_fed 18 = .ok (.aload_n 0, 1) := by decide +kernel
theorem dX12_fed_19 : decode cX12_fed 19 = .ok (.invokevirtual 333, 3) := by decide +kernel
theorem dX12_fed_22 : decode cX12_fed 22 = .ok (.aload_n 0, 1) := by decide +kernel
theorem dX12_fed_23 : decode cX12_fed 23 = .ok (.aload_n 0, 1) := by decide +kernel
theorem dX12_fed_24 : decode cX12_fed 24 = .ok (.invokevirtual 366, 3) := by decide +kernel
theorem dX12_fed_27 : decode cX12_fed 27 = .ok (.invokevirtual 49, 3) := by decide +kernel
theorem dX12_fed_30 : decode cX12_fed 30 = .ok (.ireturn, 1) := by decide +kernel
theorem dX12_match_0 : decode cX12_match 0 = .ok (.aload_n 0, 1) := by decide +kernel
theorem dX12_match_1 : decode cX12_match 1 = .ok (.iconst 0, 1) := by decide +kernel
theorem dX12_match_2 : decode cX12_match 2 = .ok (.putfield 39, 3) := by decide +kernel
theorem dX12_match_5 : decode cX12_match 5 = .ok (.aload_n 0, 1) := by decide +kernel
theorem dX12_match_6 : decode cX12_match 6 = .ok (.getfield 298, 3) := by decide +kernel
theorem dX12_match_9 : decode cX12_match 9 = .ok (.ifnonnull 9, 3) := by decide +kernel
theorem dX12_match_12 : decode cX12_match 12 = .ok (.aload_n 0, 1) := by decide +kernel
theorem dX12_match_13 : decode cX12_match 13 = .ok (.iconst 1, 1) := by decide +kernel
theorem dX12_match_14 : decode cX12_match 14 = .ok (.invokevirtual 45, 3) := by decide +kernel
theorem dX12_match_17 : decode cX12_match 17 = .ok (.ireturn, 1) := by decide +kernel
theorem dX12_match_18 : decode cX12_match 18 = .ok (.aload_n 0, 1) := by decide +kernel
theorem dX12_match_19 : decode cX12_match 19 = .ok (.invokevirtual 333, 3) := by decide +kernel
theorem dX12_match_22 : decode cX12_match 22 = .ok (.aload_n 0, 1) := by decide +kernel
theorem dX12_match_23 : decode cX12_match 23 = .ok (.invokevirtual 366, 3) := by decide +kernel
theorem dX12_match_26 : decode cX12_match 26 = .ok (.pop, 1) := by decide +kernel
theorem dX12_match_27 : decode cX12_match 27 = .ok (.aload_n 0, 1) := by decide +kernel
theorem dX12_match_28 : decode cX12_match 28 = .ok (.aload_n 0, 1) := by decide +kernel
theorem dX12_match_29 : decode cX12_match 29 = .ok (.getfield 354, 3) := by decide +kernel
theorem dX12_match_32 : decode cX12_match 32 = .ok (.invokevirtual 49, 3) := by decide +kernel
theorem dX12_match_35 : decode cX12_match 35 = .ok (.ireturn, 1) := by decide +kernel
theorem dX12_slops_0 : decode cX12_slops 0 = .ok (.aload_n 0, 1) := by decide +kernel
theorem dX12_slops_1 : decode cX12_slops 1 = .ok (.iconst 0, 1) := by decide +kernel
theorem dX12_slops_2 : decode cX12_slops 2 = .ok (.putfield 39, 3) := by decide +kernel
theorem dX12_slops_5 : decode cX12_slops 5 = .ok (.aload_n 0, 1) := by decide +kernel
theorem dX12_slops_6 : decode cX12_slops 6 = .ok (.getfield 298, 3) := by decide +kernel
theorem dX12_slops_9 : decode cX12_slops 9 = .ok (.ifnonnull 9, 3) := by decide +kernel
theorem dX12_slops_12 : decode cX12_slops 12 = .ok (.aload_n 0, 1) := by decide +kernel
theorem dX12_slops_13 : decode cX12_slops 13 = .ok (.iconst 1, 1) := by decide +kernel
theorem dX12_slops_14 : decode cX12_slops 14 = .ok (.invokevirtual 45, 3) := by decide +kernel
theorem dX12_slops_17 : decode cX12_slops 17 = .ok (.ireturn, 1) := by decide +kernel
theorem dX12_slops_18 : decode cX12_slops 18 = .ok (.aload_n 0, 1) := by decide +kernel
theorem dX12_slops_19 : decode cX12_slops 19 = .ok (.invokevirtual 333, 3) := by decide +kernel
theorem dX12_slops_22 : decode cX12_slops 22 = .ok (.aload_n 0, 1) := by decide +kernel
theorem dX12_slops_23 : decode cX12_slops 23 = .ok (.invokevirtual 366, 3) := by decide +kernel
theorem dX12_slops_26 : decode cX12_slops 26 = .ok (.pop, 1) := by decide +kernel
theorem dX12_slops_27 : decode cX12_slops 27 = .ok (.aload_n 0, 1) := by decide +kernel
theorem dX12_slops_28 : decode cX12_slops 28 = .ok (.aload_n 0, 1) := by decide +kernel
theorem dX12_slops_29 : decode cX12_slops 29 = .ok (.getfield 357, 3) := by decide +kernel
theorem dX12_slops_32 : decode cX12_slops 32 = .ok (.invokevirtual 49, 3) := by decide +kernel
theorem dX12_slops_35 : decode cX12_slops 35 = .ok (.ireturn, 1) := by decide +kernel
theorem dX12_mate_0 : decode cX12_mate 0 = .ok (.aload_n 0, 1) := by decide +kernel
theorem dX12_mate_1 : decode cX12_mate 1 = .ok (.iconst 0, 1) := by decide +kernel
theorem dX12_mate_2 : decode cX12_mate 2 = .ok (.putfield 39, 3) := by decide +kernel
theorem dX12_mate_5 : decode cX12_mate 5 = .ok (.aload_n 0, 1) := by decide +kernel
theorem dX12_mate_6 : decode cX12_mate 6 = .ok (.iload_n 1, 1) := by decide +kernel
theorem dX12_mate_7 : decode cX12_mate 7 = .ok (.invokevirtual 309, 3) := by decide +kernel
theorem dX12_mate_10 : decode cX12_mate 10 = .ok (.ifCond .ne 9, 3) := by decide +kernel
theorem dX12_mate_13 : decode cX12_mate 13 = .ok (.aload_n 0, 1) := by decide +kernel
theorem dX12_mate_14 : decode cX12_mate 14 = .ok (.iconst 1, 1) := by decide +kernel
theorem dX12_mate_15 : decode cX12_mate 15 = .ok (.invokevirtual 45, 3) := by decide +kernel
theorem dX12_mate_18 : decode cX12_mate 18 = .ok (.ireturn, 1) := by decide +kernel
theorem dX12_mate_19 : decode cX12_mate 19 = .ok (.aload_n 0, 1) := by decide +kernel
theorem dX12_mate_20 : decode cX12_mate 20 = .ok (.invokevirtual 333, 3) := by decide +kernel
theorem dX12_mate_23 : decode cX12_mate 23 = .ok (.aload_n 0, 1) := by decide +kernel
theorem dX12_mate_24 : decode cX12_mate 24 = .ok (.invokevirtual 366, 3) := by decide +kernel
theorem dX12_mate_27 : decode cX12_mate 27 = .ok (.pop, 1) := by decide +kernel
theorem dX12_mate_28 : decode cX12_mate 28 = .ok (.aload_n 0, 1) := by decide +kernel
theorem dX12_mate_29 : decode cX12_mate 29 = .ok (.aload_n 0, 1) := by decide +kernel
theorem dX12_mate_30 : decode cX12_mate 30 = .ok (.aload_n 0, 1) := by decide +kernel
theorem dX12_mate_31 : decode cX12_mate 31 = .ok (.getfield 354, 3) := by decide +kernel
theorem dX12_mate_34 : decode cX12_mate 34 = .ok (.iload_n 1, 1) := by decide +kernel
theorem dX12_mate_35 : decode cX12_mate 35 = .ok (.invokevirtual 369, 3) := by decide +kernel
theorem dX12_mate_38 : decode cX12_mate 38 = .ok (.invokevirtual 49, 3) := by decide +kernel
theorem dX12_mate_41 : decode cX12_mate 41 = .ok (.ireturn, 1) := by decide +kernel
theorem dX12_starving_0 : decode cX12_starving 0 = .ok (.aload_n 0, 1) := by decide +kernel
theorem dX12_starving_1 : decode cX12_starving 1 = .ok (.iconst 0, 1) := by decide +kernel
theorem dX12_starving_2 : decode cX12_starving 2 = .ok (.putfield 39, 3) := by decide +kernel
theorem dX12_starving_5 : decode cX12_starving 5 = .ok (.aload_n 0, 1) := by decide +kernel
theorem dX12_starving_6 : decode cX12_starving 6 = .ok (.getfield 298, 3) := by decide +kernel
theorem dX12_starving_9 : decode cX12_starving 9 = .ok (.ifnonnull 9, 3) := by decide +kernel
theorem dX12_starving_12 : decode cX12_starving 12 = .ok (.aload_n 0, 1) := by decide +kernel
theorem dX12_starving_13 : decode cX12_starving 13 = .ok (.iconst 1, 1) := by decide +kernel
theorem dX12_starving_14 : decode cX12_starving 14 = .ok (.invokevirtual 45, 3) := by decide +kernel
theorem dX12_starving_17 : decode cX12_starving 17 = .ok (.ireturn, 1) := by decide +kernel
theorem dX12_starving_18 : decode cX12_starving 18 = .ok (.aload_n 0, 1) := by decide +kernel
theorem dX12_starving_19 : decode cX12_starving 19 = .ok (.invokevirtual 333, 3) := by decide +kernel
theorem dX12_starving_22 : decode cX12_starving 22 = .ok (.aload_n 0, 1) := by decide +kernel
theorem dX12_starving_23 : decode cX12_starving 23 = .ok (.invokevirtual 366, 3) := by decide +kernel
theorem dX12_starving_26 : decode cX12_starving 26 = .ok (.pop, 1) := by decide +kernel
theorem dX12_starving_27 : decode cX12_starving 27 = .ok (.iconst 0, 1) := by decide +kernel
theorem dX12_starving_28 : decode cX12_starving 28 = .ok (.istore_n 1, 1) := by decide +kernel
theorem dX12_starving_29 : decode cX12_starving 29 = .ok (.iconst 0, 1) := by decide +kernel
theorem dX12_starving_30 : decode cX12_starving 30 = .ok (.istore_n 2, 1) := by decide +kernel
theorem dX12_starving_31 : decode cX12_starving 31 = .ok (.iload_n 2, 1) := by decide +kernel
theorem dX12_starving_32 : decode cX12_starving 32 = .ok (.aload_n 0, 1) := by decide +kernel
theorem dX12_starving_33 : decode cX12_starving 33 = .ok (.getfield 298, 3) := by decide +kernel
theorem dX12_starving_36 : decode cX12_starving 36 = .ok (.getfield 177, 3) := by decide +kernel
theorem dX12_starving_39 : decode cX12_starving 39 = .ok (.if_icmp .ge 33, 3) := by decide +kernel
theorem dX12_starving_42 : decode cX12_starving 42 = .ok (.iload_n 1, 1) := by decide +kernel
theorem dX12_starving_43 : decode cX12_starving 43 = .ok (.aload_n 0, 1) := by decide +kernel
theorem dX12_starving_44 : decode cX12_starving 44 = .ok (.aload_n 0, 1) := by decide +kernel
theorem dX12_starving_45 : decode cX12_starving 45 = .ok (.getfield 354, 3) := by decide +kernel
theorem dX12_starving_48 : decode cX12_starving 48 = .ok (.iload_n 2, 1) := by decide +kernel
theorem dX12_starving_49 : decode cX12_starving 49 = .ok (.invokevirtual 369, 3) := by decide +kernel
theorem dX12_starving_52 : decode cX12_starving 52 = .ok (.bipush (-2), 2) := by decide +kernel
theorem dX12_starving_54 : decode cX12_starving 54 = .ok (.if_icmp .ne 9, 3) := by decide +kernel
theorem dX12_starving_57 : decode cX12_starving 57 = .ok (.iconst 1, 1) := by decide +kernel
theorem dX12_starving_58 : decode cX12_starving 58 = .ok (.iload_n 2, 1) := by decide +kernel
theorem dX12_starving_59 : decode cX12_starving 59 = .ok (.ishl, 1) := by decide +kernel
theorem dX12_starving_60 : decode cX12_starving 60 = .ok (.goto 4, 3) := by decide +kernel
theorem dX12_starving_63 : decode cX12_starving 63 = .ok (.iconst 0, 1) := by decide +kernel
theorem dX12_starving_64 : decode cX12_starving 64 = .ok (.ior, 1) := by decide +kernel
theorem dX12_starving_65 : decode cX12_starving 65 = .ok (.istore_n 1, 1) := by decide +kernel
theorem dX12_starving_66 : decode cX12_starving 66 = .ok (.iinc 2 1, 3) := by decide +kernel
theorem dX12_starving_69 : decode cX12_starving 69 = .ok (.goto (-38), 3) := by decide +kernel
theorem dX12_starving_72 : decode cX12_starving 72 = .ok (.aload_n 0, 1) := by decide +kernel
theorem dX12_starving_73 : decode cX12_starving 73 = .ok (.iload_n 1, 1) := by decide +kernel
theorem dX12_starving_74 : decode cX12_starving 74 = .ok (.invokevirtual 49, 3) := by decide +kernel
theorem dX12_starving_77 : decode cX12_starving 77 = .ok (.ireturn, 1) := by decide +kernel
theorem dX12_matches_0 : decode cX12_matches 0 = .ok (.aload_n 0, 1) := by decide +kernel
theorem dX12_matches_1 : decode cX12_matches 1 = .ok (.iconst 0, 1) := by decide +kernel
theorem dX12_matches_2 : decode cX12_matches 2 = .ok (.putfield 39, 3) := by decide +kernel
theorem dX12_matches_5 : decode cX12_matches 5 = .ok (.aload_n 0, 1) := by decide +kernel
theorem dX12_matches_6 : decode cX12_matches 6 = .ok (.getfield 298, 3) := by decide +kernel
theorem dX12_matches_9 : decode cX12_matches 9 = .ok (.ifnonnull 9, 3) := by decide +kernel
theorem dX12_matches_12 : decode cX12_matches 12 = .ok (.aload_n 0, 1) := by decide +kernel
theorem dX12_matches_13 : decode cX12_matches 13 = .ok (.iconst 1, 1) := by decide +kernel
theorem dX12_matches_14 : decode cX12_matches 14 = .ok (.invokevirtual 45, 3) := by decide +kernel
theorem dX12_matches_17 : decode cX12_matches 17 = .ok (.ireturn, 1) := by decide +kernel
theorem dX12_matches_18 : decode cX12_matches 18 = .ok (.aload_n 0, 1) := by decide +kernel
theorem dX12_matches_19 : decode cX12_matches 19 = .ok (.invokevirtual 333, 3) := by decide +kernel
theorem dX12_matches_22 : decode cX12_matches 22 = .ok (.aload_n 0, 1) := by decide +kernel
theorem dX12_matches_23 : decode cX12_matches 23 = .ok (.invokevirtual 366, 3) := by decide +kernel
theorem dX12_matches_26 : decode cX12_matches 26 = .ok (.pop, 1) := by decide +kernel
theorem dX12_matches_27 : decode cX12_matches 27 = .ok (.aload_n 0, 1) := by decide +kernel
theorem dX12_matches_28 : decode cX12_matches 28 = .ok (.aload_n 0, 1) := by decide +kernel
theorem dX12_matches_29 : decode cX12_matches 29 = .ok (.getfield 351, 3) := by decide +kernel
theorem dX12_matches_32 : decode cX12_matches 32 = .ok (.invokevirtual 49, 3) := by decide +kernel
theorem dX12_matches_35 : decode cX12_matches 35 = .ok (.ireturn, 1) := by decide +kernel
theorem dX12_refusesYears_0 : decode cX12_refusesYears 0 = .ok (.iload_n 1, 1) := by decide +kernel
theorem dX12_refusesYears_1 : decode cX12_refusesYears 1 = .ok (.ifCond .ne 7, 3) := by decide +kernel
theorem dX12_refusesYears_4 : decode cX12_refusesYears 4 = .ok (.iconst 1, 1) := by decide +kernel
theorem dX12_refusesYears_5 : decode cX12_refusesYears 5 = .ok (.goto 18, 3) := by decide +kernel
theorem dX12_refusesYears_8 : decode cX12_refusesYears 8 = .ok (.iload_n 2, 1) := by decide +kernel
theorem dX12_refusesYears_9 : decode cX12_refusesYears 9 = .ok (.iconst 0, 1) := by decide +kernel
theorem dX12_refusesYears_10 : decode cX12_refusesYears 10 = .ok (.bipush 60, 2) := by decide +kernel
theorem dX12_refusesYears_12 : decode cX12_refusesYears 12 = .ok (.invokestatic 118, 3) := by decide +kernel
theorem dX12_refusesYears_15 : decode cX12_refusesYears 15 = .ok (.ifCond .eq 7, 3) := by decide +kernel
theorem dX12_refusesYears_18 : decode cX12_refusesYears 18 = .ok (.iconst 0, 1) := by decide +kernel
theorem dX12_refusesYears_19 : decode cX12_refusesYears 19 = .ok (.goto 4, 3) := by decide +kernel
theorem dX12_refusesYears_22 : decode cX12_refusesYears 22 = .ok (.iconst 2, 1) := by decide +kernel
theorem dX12_refusesYears_23 : decode cX12_refusesYears 23 = .ok (.ireturn, 1) := by decide +kernel
theorem dX12_worksIn_0 : decode cX12_worksIn 0 = .ok (.aload_n 0, 1) := by decide +kernel
theorem dX12_worksIn_1 : decode cX12_worksIn 1 = .ok (.invokevirtual 333, 3) := by decide +kernel
theorem dX12_worksIn_4 : decode cX12_worksIn 4 = .ok (.iconst 0, 1) := by decide +kernel
theorem dX12_worksIn_5 : decode cX12_worksIn 5 = .ok (.istore_n 2, 1) := by decide +kernel
theorem dX12_worksIn_6 : decode cX12_worksIn 6 = .ok (.iload_n 2, 1) := by decide +kernel
theorem dX12_worksIn_7 : decode cX12_worksIn 7 = .ok (.aload_n 0, 1) := by decide +kernel
theorem dX12_worksIn_8 : decode cX12_worksIn 8 = .ok (.getfield 21, 3) := by decide +kernel
theorem dX12_worksIn_11 : decode cX12_worksIn 11 = .ok (.bipush 55, 2) := by decide +kernel
theorem dX12_worksIn_13 : decode cX12_worksIn 13 = .ok (.iaload, 1) := by decide +kernel
theorem dX12_worksIn_14 : decode cX12_worksIn 14 = .ok (.if_icmp .ge 22, 3) := by decide +kernel
theorem dX12_worksIn_17 : decode cX12_worksIn 17 = .ok (.aload_n 0, 1) := by decide +kernel
theorem dX12_worksIn_18 : decode cX12_worksIn 18 = .ok (.getfield 21, 3) := by decide +kernel
theorem dX12_worksIn_21 : decode cX12_worksIn 21 = .ok (.bipush 25, 2) := by decide +kernel
theorem dX12_worksIn_23 : decode cX12_worksIn 23 = .ok (.iload_n 2, 1) := by decide +kernel
theorem dX12_worksIn_24 : decode cX12_worksIn 24 = .ok (.iadd, 1) := by decide +kernel
theorem dX12_worksIn_25 : decode cX12_worksIn 25 = .ok (.dup2, 1) := by decide +kernel
theorem dX12_worksIn_26 : decode cX12_worksIn 26 = .ok (.iaload, 1) := by decide +kernel
theorem dX12_worksIn_27 : decode cX12_worksIn 27 = .ok (.iload_n 1, 1) := by decide +kernel
theorem dX12_worksIn_28 : decode cX12_worksIn 28 = .ok (.iadd, 1) := by decide +kernel
theorem dX12_worksIn_29 : decode cX12_worksIn 29 = .ok (.iastore, 1) := by decide +kernel
theorem dX12_worksIn_30 : decode cX12_worksIn 30 = .ok (.iinc 2 1, 3) := by decide +kernel
theorem dX12_worksIn_33 : decode cX12_worksIn 33 = .ok (.goto (-27), 3) := by decide +kernel
theorem dX12_worksIn_36 : decode cX12_worksIn 36 = .ok (.return_, 1) := by decide +kernel
theorem dX12_handleIn_0 : decode cX12_handleIn 0 = .ok (.aload_n 0, 1) := by decide +kernel
theorem dX12_handleIn_1 : decode cX12_handleIn 1 = .ok (.iconst 0, 1) := by decide +kernel
theorem dX12_handleIn_2 : decode cX12_handleIn 2 = .ok (.putfield 39, 3) := by decide +kernel
theorem dX12_handleIn_5 : decode cX12_handleIn 5 = .ok (.aload_n 0, 1) := by decide +kernel
theorem dX12_handleIn_6 : decode cX12_handleIn 6 = .ok (.aload_n 0, 1) := by decide +kernel
theorem dX12_handleIn_7 : decode cX12_handleIn 7 = .ok (.iload_n 1, 1) := by decide +kernel
theorem dX12_handleIn_8 : decode cX12_handleIn 8 = .ok (.invokevirtual 330, 3) := by decide +kernel
theorem dX12_handleIn_11 : decode cX12_handleIn 11 = .ok (.iload_n 2, 1) := by decide +kernel
theorem dX12_handleIn_12 : decode cX12_handleIn 12 = .ok (.invokevirtual 372, 3) := by decide +kernel
theorem dX12_handleIn_15 : decode cX12_handleIn 15 = .ok (.istore_n 3, 1) := by decide +kernel
theorem dX12_handleIn_16 : decode cX12_handleIn 16 = .ok (.iload_n 3, 1) := by decide +kernel
theorem dX12_handleIn_17 : decode cX12_handleIn 17 = .ok (.ifCond .le 9, 3) := by decide +kernel
theorem dX12_handleIn_20 : decode cX12_handleIn 20 = .ok (.aload_n 0, 1) := by decide +kernel
theorem dX12_handleIn_21 : decode cX12_handleIn 21 = .ok (.iload_n 3, 1) := by decide +kernel
theorem dX12_handleIn_22 : decode cX12_handleIn 22 = .ok (.invokevirtual 45, 3) := by decide +kernel
theorem dX12_handleIn_25 : decode cX12_handleIn 25 = .ok (.ireturn, 1) := by decide +kernel
theorem dX12_handleIn_26 : decode cX12_handleIn 26 = .ok (.aload_n 0, 1) := by decide +kernel
theorem dX12_handleIn_27 : decode cX12_handleIn 27 = .ok (.iload_n 2, 1) := by decide +kernel
theorem dX12_handleIn_28 : decode cX12_handleIn 28 = .ok (.invokevirtual 376, 3) := by decide +kernel
theorem dX12_handleIn_31 : decode cX12_handleIn 31 = .ok (.aload_n 0, 1) := by decide +kernel
theorem dX12_handleIn_32 : decode cX12_handleIn 32 = .ok (.aload_n 0, 1) := by decide +kernel
theorem dX12_handleIn_33 : decode cX12_handleIn 33 = .ok (.iload_n 1, 1) := by decide +kernel
theorem dX12_handleIn_34 : decode cX12_handleIn 34 = .ok (.invokevirtual 321, 3) := by decide +kernel
theorem dX12_handleIn_37 : decode cX12_handleIn 37 = .ok (.invokevirtual 49, 3) := by decide +kernel
theorem dX12_handleIn_40 : decode cX12_handleIn 40 = .ok (.ireturn, 1) := by decide +kernel
theorem dX12_feedsIn_0 : decode cX12_feedsIn 0 = .ok (.aload_n 0, 1) := by decide +kernel
theorem dX12_feedsIn_1 : decode cX12_feedsIn 1 = .ok (.iconst 0, 1) := by decide +kernel
theorem dX12_feedsIn_2 : decode cX12_feedsIn 2 = .ok (.putfield 39, 3) := by decide +kernel
theorem dX12_feedsIn_5 : decode cX12_feedsIn 5 = .ok (.aload_n 0, 1) := by decide +kernel
theorem dX12_feedsIn_6 : decode cX12_feedsIn 6 = .ok (.iload_n 1, 1) := by decide +kernel
theorem dX12_feedsIn_7 : decode cX12_feedsIn 7 = .ok (.invokevirtual 330, 3) := by decide +kernel
theorem dX12_feedsIn_10 : decode cX12_feedsIn 10 = .ok (.ifCond .ne 9, 3) := by decide +kernel
theorem dX12_feedsIn_13 : decode cX12_feedsIn 13 = .ok (.aload_n 0, 1) := by decide +kernel
theorem dX12_feedsIn_14 : decode cX12_feedsIn 14 = .ok (.iconst 1, 1) := by decide +kernel
theorem dX12_feedsIn_15 : decode cX12_feedsIn 15 = .ok (.invokevirtual 45, 3) := by decide +kernel
theorem dX12_feedsIn_18 : decode cX12_feedsIn 18 = .ok (.ireturn, 1) := by decide +kernel
theorem dX12_feedsIn_19 : decode cX12_feedsIn 19 = .ok (.iconst 0, 1) := by decide +kernel
theorem dX12_feedsIn_20 : decode cX12_feedsIn 20 = .ok (.istore_n 2, 1) := by decide +kernel
theorem dX12_feedsIn_21 : decode cX12_feedsIn 21 = .ok (.iload_n 2, 1) := by decide +kernel
theorem dX12_feedsIn_22 : decode cX12_feedsIn 22 = .ok (.bipush 60, 2) := by decide +kernel
theorem dX12_feedsIn_24 : decode cX12_feedsIn 24 = .ok (.if_icmp .gt 28, 3) := by decide +kernel
theorem dX12_feedsIn_27 : decode cX12_feedsIn 27 = .ok (.aload_n 0, 1) := by decide +kernel
theorem dX12_feedsIn_28 : decode cX12_feedsIn 28 = .ok (.iload_n 2, 1) := by decide +kernel
theorem dX12_feedsIn_29 : decode cX12_feedsIn 29 = .ok (.invokevirtual 376, 3) := by decide +kernel
theorem dX12_feedsIn_32 : decode cX12_feedsIn 32 = .ok (.aload_n 0, 1) := by decide +kernel
