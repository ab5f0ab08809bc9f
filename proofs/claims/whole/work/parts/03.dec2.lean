theorem dX12_feedsIn_33 : decode cX12_feedsIn 33 = .ok (.iload_n 1, 1) := by decide +kernel
theorem dX12_feedsIn_34 : decode cX12_feedsIn 34 = .ok (.invokevirtual 336, 3) := by decide +kernel
theorem dX12_feedsIn_37 : decode cX12_feedsIn 37 = .ok (.ifCond .eq 9, 3) := by decide +kernel
theorem dX12_feedsIn_40 : decode cX12_feedsIn 40 = .ok (.aload_n 0, 1) := by decide +kernel
theorem dX12_feedsIn_41 : decode cX12_feedsIn 41 = .ok (.iload_n 2, 1) := by decide +kernel
theorem dX12_feedsIn_42 : decode cX12_feedsIn 42 = .ok (.invokevirtual 49, 3) := by decide +kernel
theorem dX12_feedsIn_45 : decode cX12_feedsIn 45 = .ok (.ireturn, 1) := by decide +kernel
theorem dX12_feedsIn_46 : decode cX12_feedsIn 46 = .ok (.iinc 2 1, 3) := by decide +kernel
theorem dX12_feedsIn_49 : decode cX12_feedsIn 49 = .ok (.goto (-28), 3) := by decide +kernel
theorem dX12_feedsIn_52 : decode cX12_feedsIn 52 = .ok (.aload_n 0, 1) := by decide +kernel
theorem dX12_feedsIn_53 : decode cX12_feedsIn 53 = .ok (.bipush (-2), 2) := by decide +kernel
theorem dX12_feedsIn_55 : decode cX12_feedsIn 55 = .ok (.invokevirtual 49, 3) := by decide +kernel
theorem dX12_feedsIn_58 : decode cX12_feedsIn 58 = .ok (.ireturn, 1) := by decide +kernel
theorem dX12_feedsOften_0 : decode cX12_feedsOften 0 = .ok (.aload_n 0, 1) := by decide +kernel
theorem dX12_feedsOften_1 : decode cX12_feedsOften 1 = .ok (.iconst 0, 1) := by decide +kernel
theorem dX12_feedsOften_2 : decode cX12_feedsOften 2 = .ok (.putfield 39, 3) := by decide +kernel
theorem dX12_feedsOften_5 : decode cX12_feedsOften 5 = .ok (.aload_n 0, 1) := by decide +kernel
theorem dX12_feedsOften_6 : decode cX12_feedsOften 6 = .ok (.iload_n 1, 1) := by decide +kernel
theorem dX12_feedsOften_7 : decode cX12_feedsOften 7 = .ok (.invokevirtual 330, 3) := by decide +kernel
theorem dX12_feedsOften_10 : decode cX12_feedsOften 10 = .ok (.ifCond .ne 9, 3) := by decide +kernel
theorem dX12_feedsOften_13 : decode cX12_feedsOften 13 = .ok (.aload_n 0, 1) := by decide +kernel
theorem dX12_feedsOften_14 : decode cX12_feedsOften 14 = .ok (.iconst 1, 1) := by decide +kernel
theorem dX12_feedsOften_15 : decode cX12_feedsOften 15 = .ok (.invokevirtual 45, 3) := by decide +kernel
theorem dX12_feedsOften_18 : decode cX12_feedsOften 18 = .ok (.ireturn, 1) := by decide +kernel
theorem dX12_feedsOften_19 : decode cX12_feedsOften 19 = .ok (.iconst 0, 1) := by decide +kernel
theorem dX12_feedsOften_20 : decode cX12_feedsOften 20 = .ok (.istore_n 2, 1) := by decide +kernel
theorem dX12_feedsOften_21 : decode cX12_feedsOften 21 = .ok (.iconst 0, 1) := by decide +kernel
theorem dX12_feedsOften_22 : decode cX12_feedsOften 22 = .ok (.istore_n 3, 1) := by decide +kernel
theorem dX12_feedsOften_23 : decode cX12_feedsOften 23 = .ok (.iload_n 3, 1) := by decide +kernel
theorem dX12_feedsOften_24 : decode cX12_feedsOften 24 = .ok (.bipush 60, 2) := by decide +kernel
theorem dX12_feedsOften_26 : decode cX12_feedsOften 26 = .ok (.if_icmp .gt 30, 3) := by decide +kernel
theorem dX12_feedsOften_29 : decode cX12_feedsOften 29 = .ok (.aload_n 0, 1) := by decide +kernel
theorem dX12_feedsOften_30 : decode cX12_feedsOften 30 = .ok (.iload_n 3, 1) := by decide +kernel
theorem dX12_feedsOften_31 : decode cX12_feedsOften 31 = .ok (.invokevirtual 376, 3) := by decide +kernel
theorem dX12_feedsOften_34 : decode cX12_feedsOften 34 = .ok (.iload_n 2, 1) := by decide +kernel
theorem dX12_feedsOften_35 : decode cX12_feedsOften 35 = .ok (.aload_n 0, 1) := by decide +kernel
theorem dX12_feedsOften_36 : decode cX12_feedsOften 36 = .ok (.iload_n 1, 1) := by decide +kernel
theorem dX12_feedsOften_37 : decode cX12_feedsOften 37 = .ok (.invokevirtual 336, 3) := by decide +kernel
theorem dX12_feedsOften_40 : decode cX12_feedsOften 40 = .ok (.ifCond .eq 7, 3) := by decide +kernel
theorem dX12_feedsOften_43 : decode cX12_feedsOften 43 = .ok (.iconst 1, 1) := by decide +kernel
theorem dX12_feedsOften_44 : decode cX12_feedsOften 44 = .ok (.goto 4, 3) := by decide +kernel
theorem dX12_feedsOften_47 : decode cX12_feedsOften 47 = .ok (.iconst 0, 1) := by decide +kernel
theorem dX12_feedsOften_48 : decode cX12_feedsOften 48 = .ok (.iadd, 1) := by decide +kernel
theorem dX12_feedsOften_49 : decode cX12_feedsOften 49 = .ok (.istore_n 2, 1) := by decide +kernel
theorem dX12_feedsOften_50 : decode cX12_feedsOften 50 = .ok (.iinc 3 1, 3) := by decide +kernel
theorem dX12_feedsOften_53 : decode cX12_feedsOften 53 = .ok (.goto (-30), 3) := by decide +kernel
theorem dX12_feedsOften_56 : decode cX12_feedsOften 56 = .ok (.aload_n 0, 1) := by decide +kernel
theorem dX12_feedsOften_57 : decode cX12_feedsOften 57 = .ok (.iload_n 2, 1) := by decide +kernel
theorem dX12_feedsOften_58 : decode cX12_feedsOften 58 = .ok (.invokevirtual 49, 3) := by decide +kernel
theorem dX12_feedsOften_61 : decode cX12_feedsOften 61 = .ok (.ireturn, 1) := by decide +kernel
theorem dX12_fedIn_0 : decode cX12_fedIn 0 = .ok (.aload_n 0, 1) := by decide +kernel
theorem dX12_fedIn_1 : decode cX12_fedIn 1 = .ok (.iconst 0, 1) := by decide +kernel
theorem dX12_fedIn_2 : decode cX12_fedIn 2 = .ok (.putfield 39, 3) := by decide +kernel
theorem dX12_fedIn_5 : decode cX12_fedIn 5 = .ok (.aload_n 0, 1) := by decide +kernel
theorem dX12_fedIn_6 : decode cX12_fedIn 6 = .ok (.aload_n 0, 1) := by decide +kernel
theorem dX12_fedIn_7 : decode cX12_fedIn 7 = .ok (.getfield 298, 3) := by decide +kernel
theorem dX12_fedIn_10 : decode cX12_fedIn 10 = .ok (.ifnull 7, 3) := by decide +kernel
theorem dX12_fedIn_13 : decode cX12_fedIn 13 = .ok (.iconst 1, 1) := by decide +kernel
theorem dX12_fedIn_14 : decode cX12_fedIn 14 = .ok (.goto 4, 3) := by decide +kernel
theorem dX12_fedIn_17 : decode cX12_fedIn 17 = .ok (.iconst 0, 1) := by decide +kernel
theorem dX12_fedIn_18 : decode cX12_fedIn 18 = .ok (.iload_n 1, 1) := by decide +kernel
theorem dX12_fedIn_19 : decode cX12_fedIn 19 = .ok (.invokevirtual 372, 3) := by decide +kernel
theorem dX12_fedIn_22 : decode cX12_fedIn 22 = .ok (.istore_n 2, 1) := by decide +kernel
theorem dX12_fedIn_23 : decode cX12_fedIn 23 = .ok (.iload_n 2, 1) := by decide +kernel
theorem dX12_fedIn_24 : decode cX12_fedIn 24 = .ok (.ifCond .le 9, 3) := by decide +kernel
theorem dX12_fedIn_27 : decode cX12_fedIn 27 = .ok (.aload_n 0, 1) := by decide +kernel
theorem dX12_fedIn_28 : decode cX12_fedIn 28 = .ok (.iload_n 2, 1) := by decide +kernel
theorem dX12_fedIn_29 : decode cX12_fedIn 29 = .ok (.invokevirtual 45, 3) := by decide +kernel
theorem dX12_fedIn_32 : decode cX12_fedIn 32 = .ok (.ireturn, 1) := by decide +kernel
theorem dX12_fedIn_33 : decode cX12_fedIn 33 = .ok (.aload_n 0, 1) := by decide +kernel
theorem dX12_fedIn_34 : decode cX12_fedIn 34 = .ok (.iload_n 1, 1) := by decide +kernel
theorem dX12_fedIn_35 : decode cX12_fedIn 35 = .ok (.invokevirtual 376, 3) := by decide +kernel
theorem dX12_fedIn_38 : decode cX12_fedIn 38 = .ok (.aload_n 0, 1) := by decide +kernel
theorem dX12_fedIn_39 : decode cX12_fedIn 39 = .ok (.aload_n 0, 1) := by decide +kernel
theorem dX12_fedIn_40 : decode cX12_fedIn 40 = .ok (.invokevirtual 366, 3) := by decide +kernel
theorem dX12_fedIn_43 : decode cX12_fedIn 43 = .ok (.invokevirtual 49, 3) := by decide +kernel
theorem dX12_fedIn_46 : decode cX12_fedIn 46 = .ok (.ireturn, 1) := by decide +kernel
theorem dX12_bestYear_0 : decode cX12_bestYear 0 = .ok (.aload_n 0, 1) := by decide +kernel
theorem dX12_bestYear_1 : decode cX12_bestYear 1 = .ok (.iconst 0, 1) := by decide +kernel
theorem dX12_bestYear_2 : decode cX12_bestYear 2 = .ok (.putfield 39, 3) := by decide +kernel
theorem dX12_bestYear_5 : decode cX12_bestYear 5 = .ok (.aload_n 0, 1) := by decide +kernel
theorem dX12_bestYear_6 : decode cX12_bestYear 6 = .ok (.getfield 298, 3) := by decide +kernel
theorem dX12_bestYear_9 : decode cX12_bestYear 9 = .ok (.ifnonnull 9, 3) := by decide +kernel
theorem dX12_bestYear_12 : decode cX12_bestYear 12 = .ok (.aload_n 0, 1) := by decide +kernel
theorem dX12_bestYear_13 : decode cX12_bestYear 13 = .ok (.iconst 1, 1) := by decide +kernel
theorem dX12_bestYear_14 : decode cX12_bestYear 14 = .ok (.invokevirtual 45, 3) := by decide +kernel
theorem dX12_bestYear_17 : decode cX12_bestYear 17 = .ok (.ireturn, 1) := by decide +kernel
theorem dX12_bestYear_18 : decode cX12_bestYear 18 = .ok (.iconst 0, 1) := by decide +kernel
theorem dX12_bestYear_19 : decode cX12_bestYear 19 = .ok (.istore_n 1, 1) := by decide +kernel
theorem dX12_bestYear_20 : decode cX12_bestYear 20 = .ok (.iconst (-1), 1) := by decide +kernel
theorem dX12_bestYear_21 : decode cX12_bestYear 21 = .ok (.istore_n 2, 1) := by decide +kernel
theorem dX12_bestYear_22 : decode cX12_bestYear 22 = .ok (.iconst 0, 1) := by decide +kernel
theorem dX12_bestYear_23 : decode cX12_bestYear 23 = .ok (.istore_n 3, 1) := by decide +kernel
theorem dX12_bestYear_24 : decode cX12_bestYear 24 = .ok (.iload_n 3, 1) := by decide +kernel
theorem dX12_bestYear_25 : decode cX12_bestYear 25 = .ok (.bipush 60, 2) := by decide +kernel
theorem dX12_bestYear_27 : decode cX12_bestYear 27 = .ok (.if_icmp .gt 34, 3) := by decide +kernel
theorem dX12_bestYear_30 : decode cX12_bestYear 30 = .ok (.aload_n 0, 1) := by decide +kernel
theorem dX12_bestYear_31 : decode cX12_bestYear 31 = .ok (.iload_n 3, 1) := by decide +kernel
theorem dX12_bestYear_32 : decode cX12_bestYear 32 = .ok (.invokevirtual 376, 3) := by decide +kernel
theorem dX12_bestYear_35 : decode cX12_bestYear 35 = .ok (.aload_n 0, 1) := by decide +kernel
theorem dX12_bestYear_36 : decode cX12_bestYear 36 = .ok (.invokevirtual 366, 3) := by decide +kernel
theorem dX12_bestYear_39 : decode cX12_bestYear 39 = .ok (.istore 4, 2) := by decide +kernel
theorem dX12_bestYear_41 : decode cX12_bestYear 41 = .ok (.iload 4, 2) := by decide +kernel
theorem dX12_bestYear_43 : decode cX12_bestYear 43 = .ok (.iload_n 2, 1) := by decide +kernel
theorem dX12_bestYear_44 : decode cX12_bestYear 44 = .ok (.if_icmp .gt 6, 3) := by decide +kernel
theorem dX12_bestYear_47 : decode cX12_bestYear 47 = .ok (.goto 8, 3) := by decide +kernel
theorem dX12_bestYear_50 : decode cX12_bestYear 50 = .ok (.iload 4, 2) := by decide +kernel
theorem dX12_bestYear_52 : decode cX12_bestYear 52 = .ok (.istore_n 2, 1) := by decide +kernel
theorem dX12_bestYear_53 : decode cX12_bestYear 53 = .ok (.iload_n 3, 1) := by decide +kernel
theorem dX12_bestYear_54 : decode cX12_bestYear 54 = .ok (.istore_n 1, 1) := by decide +kernel
theorem dX12_bestYear_55 : decode cX12_bestYear 55 = .ok (.iinc 3 1, 3) := by decide +kernel
theorem dX12_bestYear_58 : decode cX12_bestYear 58 = .ok (.goto (-34), 3) := by decide +kernel
theorem dX12_bestYear_61 : decode cX12_bestYear 61 = .ok (.aload_n 0, 1) := by decide +kernel
theorem dX12_bestYear_62 : decode cX12_bestYear 62 = .ok (.iload_n 1, 1) := by decide +kernel
theorem dX12_bestYear_63 : decode cX12_bestYear 63 = .ok (.invokevirtual 49, 3) := by decide +kernel
theorem dX12_bestYear_66 : decode cX12_bestYear 66 = .ok (.ireturn, 1) := by decide +kernel
theorem dX12_allIn_0 : decode cX12_allIn 0 = .ok (.aload_n 0, 1) := by decide +kernel
theorem dX12_allIn_1 : decode cX12_allIn 1 = .ok (.iconst 0, 1) := by decide +kernel
theorem dX12_allIn_2 : decode cX12_allIn 2 = .ok (.putfield 39, 3) := by decide +kernel
theorem dX12_allIn_5 : decode cX12_allIn 5 = .ok (.aload_n 0, 1) := by decide +kernel
theorem dX12_allIn_6 : decode cX12_allIn 6 = .ok (.getfield 298, 3) := by decide +kernel
theorem dX12_allIn_9 : decode cX12_allIn 9 = .ok (.ifnonnull 9, 3) := by decide +kernel
theorem dX12_allIn_12 : decode cX12_allIn 12 = .ok (.aload_n 0, 1) := by decide +kernel
theorem dX12_allIn_13 : decode cX12_allIn 13 = .ok (.iconst 1, 1) := by decide +kernel
theorem dX12_allIn_14 : decode cX12_allIn 14 = .ok (.invokevirtual 45, 3) := by decide +kernel
theorem dX12_allIn_17 : decode cX12_allIn 17 = .ok (.ireturn, 1) := by decide +kernel
theorem dX12_allIn_18 : decode cX12_allIn 18 = .ok (.iconst 0, 1) := by decide +kernel
theorem dX12_allIn_19 : decode cX12_allIn 19 = .ok (.istore_n 1, 1) := by decide +kernel
theorem dX12_allIn_20 : decode cX12_allIn 20 = .ok (.iload_n 1, 1) := by decide +kernel
theorem dX12_allIn_21 : decode cX12_allIn 21 = .ok (.bipush 60, 2) := by decide +kernel
theorem dX12_allIn_23 : decode cX12_allIn 23 = .ok (.if_icmp .gt 36, 3) := by decide +kernel
theorem dX12_allIn_26 : decode cX12_allIn 26 = .ok (.aload_n 0, 1) := by decide +kernel
theorem dX12_allIn_27 : decode cX12_allIn 27 = .ok (.iload_n 1, 1) := by decide +kernel
theorem dX12_allIn_28 : decode cX12_allIn 28 = .ok (.invokevirtual 376, 3) := by decide +kernel
theorem dX12_allIn_31 : decode cX12_allIn 31 = .ok (.aload_n 0, 1) := by decide +kernel
theorem dX12_allIn_32 : decode cX12_allIn 32 = .ok (.invokevirtual 366, 3) := by decide +kernel
theorem dX12_allIn_35 : decode cX12_allIn 35 = .ok (.aload_n 0, 1) := by decide +kernel
theorem dX12_allIn_36 : decode cX12_allIn 36 = .ok (.getfield 298, 3) := by decide +kernel
theorem dX12_allIn_39 : decode cX12_allIn 39 = .ok (.getfield 177, 3) := by decide +kernel
theorem dX12_allIn_42 : decode cX12_allIn 42 = .ok (.iconst 1, 1) := by decide +kernel
theorem dX12_allIn_43 : decode cX12_allIn 43 = .ok (.isub, 1) := by decide +kernel
theorem dX12_allIn_44 : decode cX12_allIn 44 = .ok (.if_icmp .lt 9, 3) := by decide +kernel
theorem dX12_allIn_47 : decode cX12_allIn 47 = .ok (.aload_n 0, 1) := by decide +kernel
theorem dX12_allIn_48 : decode cX12_allIn 48 = .ok (.iload_n 1, 1) := by decide +kernel
theorem dX12_allIn_49 : decode cX12_allIn 49 = .ok (.invokevirtual 49, 3) := by decide +kernel
theorem dX12_allIn_52 : decode cX12_allIn 52 = .ok (.ireturn, 1) := by decide +kernel
theorem dX12_allIn_53 : decode cX12_allIn 53 = .ok (.iinc 1 1, 3) := by decide +kernel
theorem dX12_allIn_56 : decode cX12_allIn 56 = .ok (.goto (-36), 3) := by decide +kernel
theorem dX12_allIn_59 : decode cX12_allIn 59 = .ok (.aload_n 0, 1) := by decide +kernel
theorem dX12_allIn_60 : decode cX12_allIn 60 = .ok (.bipush (-2), 2) := by decide +kernel
theorem dX12_allIn_62 : decode cX12_allIn 62 = .ok (.invokevirtual 49, 3) := by decide +kernel
theorem dX12_allIn_65 : decode cX12_allIn 65 = .ok (.ireturn, 1) := by decide +kernel
theorem dX12_isFree_0 : decode cX12_isFree 0 = .ok (.iconst 0, 1) := by decide +kernel
theorem dX12_isFree_1 : decode cX12_isFree 1 = .ok (.istore_n 3, 1) := by decide +kernel
theorem dX12_isFree_2 : decode cX12_isFree 2 = .ok (.iload_n 3, 1) := by decide +kernel
theorem dX12_isFree_3 : decode cX12_isFree 3 = .ok (.iload_n 2, 1) := by decide +kernel
theorem dX12_isFree_4 : decode cX12_isFree 4 = .ok (.if_icmp .ge 21, 3) := by decide +kernel
theorem dX12_isFree_7 : decode cX12_isFree 7 = .ok (.aload_n 0, 1) := by decide +kernel
theorem dX12_isFree_8 : decode cX12_isFree 8 = .ok (.getfield 21, 3) := by decide +kernel
theorem dX12_isFree_11 : decode cX12_isFree 11 = .ok (.iload_n 3, 1) := by decide +kernel
theorem dX12_isFree_12 : decode cX12_isFree 12 = .ok (.iaload, 1) := by decide +kernel
theorem dX12_isFree_13 : decode cX12_isFree 13 = .ok (.iload_n 1, 1) := by decide +kernel
theorem dX12_isFree_14 : decode cX12_isFree 14 = .ok (.if_icmp .ne 5, 3) := by decide +kernel
theorem dX12_isFree_17 : decode cX12_isFree 17 = .ok (.iconst 0, 1) := by decide +kernel
theorem dX12_isFree_18 : decode cX12_isFree 18 = .ok (.ireturn, 1) := by decide +kernel
theorem dX12_isFree_19 : decode cX12_isFree 19 = .ok (.iinc 3 1, 3) := by decide +kernel
theorem dX12_isFree_22 : decode cX12_isFree 22 = .ok (.goto (-20), 3) := by decide +kernel
theorem dX12_isFree_25 : decode cX12_isFree 25 = .ok (.iconst 1, 1) := by decide +kernel
theorem dX12_isFree_26 : decode cX12_isFree 26 = .ok (.ireturn, 1) := by decide +kernel
theorem dX12_nextFree_0 : decode cX12_nextFree 0 = .ok (.iload_n 2, 1) := by decide +kernel
theorem dX12_nextFree_1 : decode cX12_nextFree 1 = .ok (.istore_n 3, 1) := by decide +kernel
theorem dX12_nextFree_2 : decode cX12_nextFree 2 = .ok (.iload_n 3, 1) := by decide +kernel
theorem dX12_nextFree_3 : decode cX12_nextFree 3 = .ok (.aload_n 0, 1) := by decide +kernel
theorem dX12_nextFree_4 : decode cX12_nextFree 4 = .ok (.getfield 298, 3) := by decide +kernel
theorem dX12_nextFree_7 : decode cX12_nextFree 7 = .ok (.getfield 149, 3) := by decide +kernel
theorem dX12_nextFree_10 : decode cX12_nextFree 10 = .ok (.if_icmp .ge 18, 3) := by decide +kernel
theorem dX12_nextFree_13 : decode cX12_nextFree 13 = .ok (.aload_n 0, 1) := by decide +kernel
theorem dX12_nextFree_14 : decode cX12_nextFree 14 = .ok (.iload_n 3, 1) := by decide +kernel
theorem dX12_nextFree_15 : decode cX12_nextFree 15 = .ok (.iload_n 1, 1) := by decide +kernel
theorem dX12_nextFree_16 : decode cX12_nextFree 16 = .ok (.invokevirtual 379, 3) := by decide +kernel
theorem dX12_nextFree_19 : decode cX12_nextFree 19 = .ok (.ifCond .ne 9, 3) := by decide +kernel
theorem dX12_nextFree_22 : decode cX12_nextFree 22 = .ok (.iinc 3 1, 3) := by decide +kernel
theorem dX12_nextFree_25 : decode cX12_nextFree 25 = .ok (.goto (-23), 3) := by decide +kernel
theorem dX12_nextFree_28 : decode cX12_nextFree 28 = .ok (.iload_n 3, 1) := by decide +kernel
theorem dX12_nextFree_29 : decode cX12_nextFree 29 = .ok (.ireturn, 1) := by decide +kernel
theorem dX12_notesSeats_0 : decode cX12_notesSeats 0 = .ok (.aload_n 0, 1) := by decide +kernel
theorem dX12_notesSeats_1 : decode cX12_notesSeats 1 = .ok (.invokevirtual 366, 3) := by decide +kernel
theorem dX12_notesSeats_4 : decode cX12_notesSeats 4 = .ok (.istore_n 1, 1) := by decide +kernel
theorem dX12_notesSeats_5 : decode cX12_notesSeats 5 = .ok (.iload_n 1, 1) := by decide +kernel
theorem dX12_notesSeats_6 : decode cX12_notesSeats 6 = .ok (.aload_n 0, 1) := by decide +kernel
theorem dX12_notesSeats_7 : decode cX12_notesSeats 7 = .ok (.getfield 382, 3) := by decide +kernel
theorem dX12_notesSeats_10 : decode cX12_notesSeats 10 = .ok (.if_icmp .lt 22, 3) := by decide +kernel
theorem dX12_notesSeats_13 : decode cX12_notesSeats 13 = .ok (.iload_n 1, 1) := by decide +kernel
theorem dX12_notesSeats_14 : decode cX12_notesSeats 14 = .ok (.aload_n 0, 1) := by decide +kernel
theorem dX12_notesSeats_15 : decode cX12_notesSeats 15 = .ok (.getfield 382, 3) := by decide +kernel
theorem dX12_notesSeats_18 : decode cX12_notesSeats 18 = .ok (.if_icmp .ne 15, 3) := by decide +kernel
theorem dX12_notesSeats_21 : decode cX12_notesSeats 21 = .ok (.aload_n 0, 1) := by decide +kernel
theorem dX12_notesSeats_22 : decode cX12_notesSeats 22 = .ok (.getfield 357, 3) := by decide +kernel
theorem dX12_notesSeats_25 : decode cX12_notesSeats 25 = .ok (.aload_n 0, 1) := by decide +kernel
theorem dX12_notesSeats_26 : decode cX12_notesSeats 26 = .ok (.getfield 385, 3) := by decide +kernel
theorem dX12_notesSeats_29 : decode cX12_notesSeats 29 = .ok (.if_icmp .lt 4, 3) := by decide +kernel
theorem dX12_notesSeats_32 : decode cX12_notesSeats 32 = .ok (.return_, 1) := by decide +kernel
theorem dX12_notesSeats_33 : decode cX12_notesSeats 33 = .ok (.aload_n 0, 1) := by decide +kernel
theorem dX12_notesSeats_34 : decode cX12_notesSeats 34 = .ok (.iload_n 1, 1) := by decide +kernel
theorem dX12_notesSeats_35 : decode cX12_notesSeats 35 = .ok (.putfield 382, 3) := by decide +kernel
theorem dX12_notesSeats_38 : decode cX12_notesSeats 38 = .ok (.aload_n 0, 1) := by decide +kernel
theorem dX12_notesSeats_39 : decode cX12_notesSeats 39 = .ok (.aload_n 0, 1) := by decide +kernel
theorem dX12_notesSeats_40 : decode cX12_notesSeats 40 = .ok (.getfield 357, 3) := by decide +kernel
theorem dX12_notesSeats_43 : decode cX12_notesSeats 43 = .ok (.putfield 385, 3) := by decide +kernel
theorem dX12_notesSeats_46 : decode cX12_notesSeats 46 = .ok (.iconst 0, 1) := by decide +kernel
theorem dX12_notesSeats_47 : decode cX12_notesSeats 47 = .ok (.istore_n 2, 1) := by decide +kernel
theorem dX12_notesSeats_48 : decode cX12_notesSeats 48 = .ok (.iload_n 2, 1) := by decide +kernel
theorem dX12_notesSeats_49 : decode cX12_notesSeats 49 = .ok (.aload_n 0, 1) := by decide +kernel
theorem dX12_notesSeats_50 : decode cX12_notesSeats 50 = .ok (.getfield 298, 3) := by decide +kernel
theorem dX12_notesSeats_53 : decode cX12_notesSeats 53 = .ok (.getfield 177, 3) := by decide +kernel
theorem dX12_notesSeats_56 : decode cX12_notesSeats 56 = .ok (.if_icmp .ge 21, 3) := by decide +kernel
theorem dX12_notesSeats_59 : decode cX12_notesSeats 59 = .ok (.aload_n 0, 1) := by decide +kernel
theorem dX12_notesSeats_60 : decode cX12_notesSeats 60 = .ok (.getfield 33, 3) := by decide +kernel
theorem dX12_notesSeats_63 : decode cX12_notesSeats 63 = .ok (.iload_n 2, 1) := by decide +kernel
theorem dX12_notesSeats_64 : decode cX12_notesSeats 64 = .ok (.aload_n 0, 1) := by decide +kernel
theorem dX12_notesSeats_65 : decode cX12_notesSeats 65 = .ok (.getfield 21, 3) := by decide +kernel
theorem dX12_notesSeats_68 : decode cX12_notesSeats 68 = .ok (.iload_n 2, 1) := by decide +kernel
theorem dX12_notesSeats_69 : decode cX12_notesSeats 69 = .ok (.iaload, 1) := by decide +kernel
theorem dX12_notesSeats_70 : decode cX12_notesSeats 70 = .ok (.iastore, 1) := by decide +kernel
theorem dX12_notesSeats_71 : decode cX12_notesSeats 71 = .ok (.iinc 2 1, 3) := by decide +kernel
theorem dX12_notesSeats_74 : decode cX12_notesSeats 74 = .ok (.goto (-26), 3) := by decide +kernel
theorem dX12_notesSeats_77 : decode cX12_notesSeats 77 = .ok (.return_, 1) := by decide +kernel
theorem dX12_seats_0 : decode cX12_seats 0 = .ok (.aload_n 0, 1) := by decide +kernel
theorem dX12_seats_1 : decode cX12_seats 1 = .ok (.invokevirtual 333, 3) := by decide +kernel
theorem dX12_seats_4 : decode cX12_seats 4 = .ok (.aload_n 0, 1) := by decide +kernel
theorem dX12_seats_5 : decode cX12_seats 5 = .ok (.iconst (-1), 1) := by decide +kernel
theorem dX12_seats_6 : decode cX12_seats 6 = .ok (.putfield 382, 3) := by decide +kernel
theorem dX12_seats_9 : decode cX12_seats 9 = .ok (.aload_n 0, 1) := by decide +kernel
theorem dX12_seats_10 : decode cX12_seats 10 = .ok (.ldc_w 388, 3) := by decide +kernel
theorem dX12_seats_13 : decode cX12_seats 13 = .ok (.putfield 385, 3) := by decide +kernel
theorem dX12_seats_16 : decode cX12_seats 16 = .ok (.iconst 0, 1) := by decide +kernel
theorem dX12_seats_17 : decode cX12_seats 17 = .ok (.istore_n 1, 1) := by decide +kernel
theorem dX12_seats_18 : decode cX12_seats 18 = .ok (.aload_n 0, 1) := by decide +kernel
theorem dX12_seats_19 : decode cX12_seats 19 = .ok (.getfield 21, 3) := by decide +kernel
theorem dX12_seats_22 : decode cX12_seats 22 = .ok (.iconst 0, 1) := by decide +kernel
theorem dX12_seats_23 : decode cX12_seats 23 = .ok (.iconst 0, 1) := by decide +kernel
theorem dX12_seats_24 : decode cX12_seats 24 = .ok (.iastore, 1) := by decide +kernel
theorem dX12_seats_25 : decode cX12_seats 25 = .ok (.iload_n 1, 1) := by decide +kernel
theorem dX12_seats_26 : decode cX12_seats 26 = .ok (.ifCond .lt 105, 3) := by decide +kernel
theorem dX12_seats_29 : decode cX12_seats 29 = .ok (.aload_n 0, 1) := by decide +kernel
theorem dX12_seats_30 : decode cX12_seats 30 = .ok (.getfield 21, 3) := by decide +kernel
theorem dX12_seats_33 : decode cX12_seats 33 = .ok (.iload_n 1, 1) := by decide +kernel
theorem dX12_seats_34 : decode cX12_seats 34 = .ok (.iaload, 1) := by decide +kernel
theorem dX12_seats_35 : decode cX12_seats 35 = .ok (.aload_n 0, 1) := by decide +kernel
theorem dX12_seats_36 : decode cX12_seats 36 = .ok (.getfield 298, 3) := by decide +kernel
theorem dX12_seats_39 : decode cX12_seats 39 = .ok (.getfield 149, 3) := by decide +kernel
theorem dX12_seats_42 : decode cX12_seats 42 = .ok (.if_icmp .lt 32, 3) := by decide +kernel
theorem dX12_seats_45 : decode cX12_seats 45 = .ok (.iinc 1 (-1), 3) := by decide +kernel
theorem dX12_seats_48 : decode cX12_seats 48 = .ok (.iload_n 1, 1) := by decide +kernel
theorem dX12_seats_49 : decode cX12_seats 49 = .ok (.ifCond .lt (-24), 3) := by decide +kernel
theorem dX12_seats_52 : decode cX12_seats 52 = .ok (.aload_n 0, 1) := by decide +kernel
theorem dX12_seats_53 : decode cX12_seats 53 = .ok (.getfield 21, 3) := by decide +kernel
theorem dX12_seats_56 : decode cX12_seats 56 = .ok (.iload_n 1, 1) := by decide +kernel
theorem dX12_seats_57 : decode cX12_seats 57 = .ok (.aload_n 0, 1) := by decide +kernel
theorem dX12_seats_58 : decode cX12_seats 58 = .ok (.iload_n 1, 1) := by decide +kernel
theorem dX12_seats_59 : decode cX12_seats 59 = .ok (.aload_n 0, 1) := by decide +kernel
theorem dX12_seats_60 : decode cX12_seats 60 = .ok (.getfield 21, 3) := by decide +kernel
theorem dX12_seats_63 : decode cX12_seats 63 = .ok (.iload_n 1, 1) := by decide +kernel
theorem dX12_seats_64 : decode cX12_seats 64 = .ok (.iaload, 1) := by decide +kernel
theorem dX12_seats_65 : decode cX12_seats 65 = .ok (.iconst 1, 1) := by decide +kernel
theorem dX12_seats_66 : decode cX12_seats 66 = .ok (.iadd, 1) := by decide +kernel
theorem dX12_seats_67 : decode cX12_seats 67 = .ok (.invokevirtual 389, 3) := by decide +kernel
theorem dX12_seats_70 : decode cX12_seats 70 = .ok (.iastore, 1) := by decide +kernel
theorem dX12_seats_71 : decode cX12_seats 71 = .ok (.goto (-46), 3) := by decide +kernel
theorem dX12_seats_74 : decode cX12_seats 74 = .ok (.iload_n 1, 1) := by decide +kernel
theorem dX12_seats_75 : decode cX12_seats 75 = .ok (.iconst 1, 1) := by decide +kernel
theorem dX12_seats_76 : decode cX12_seats 76 = .ok (.iadd, 1) := by decide +kernel
theorem dX12_seats_77 : decode cX12_seats 77 = .ok (.aload_n 0, 1) := by decide +kernel
theorem dX12_seats_78 : decode cX12_seats 78 = .ok (.getfield 298, 3) := by decide +kernel
theorem dX12_seats_81 : decode cX12_seats 81 = .ok (.getfield 177, 3) := by decide +kernel
theorem dX12_seats_84 : decode cX12_seats 84 = .ok (.if_icmp .ge 21, 3) := by decide +kernel
theorem dX12_seats_87 : decode cX12_seats 87 = .ok (.iinc 1 1, 3) := by decide +kernel
theorem dX12_seats_90 : decode cX12_seats 90 = .ok (.aload_n 0, 1) := by decide +kernel
theorem dX12_seats_91 : decode cX12_seats 91 = .ok (.getfield 21, 3) := by decide +kernel
theorem dX12_seats_94 : decode cX12_seats 94 = .ok (.iload_n 1, 1) := by decide +kernel
theorem dX12_seats_95 : decode cX12_seats 95 = .ok (.aload_n 0, 1) := by decide +kernel
theorem dX12_seats_96 : decode cX12_seats 96 = .ok (.iload_n 1, 1) := by decide +kernel
theorem dX12_seats_97 : decode cX12_seats 97 = .ok (.iconst 0, 1) := by decide +kernel
theorem dX12_seats_98 : decode cX12_seats 98 = .ok (.invokevirtual 389, 3) := by decide +kernel
theorem dX12_seats_101 : decode cX12_seats 101 = .ok (.iastore, 1) := by decide +kernel
theorem dX12_seats_102 : decode cX12_seats 102 = .ok (.goto (-77), 3) := by decide +kernel
theorem dX12_seats_105 : decode cX12_seats 105 = .ok (.aload_n 0, 1) := by decide +kernel
theorem dX12_seats_106 : decode cX12_seats 106 = .ok (.invokevirtual 392, 3) := by decide +kernel
theorem dX12_seats_109 : decode cX12_seats 109 = .ok (.aload_n 0, 1) := by decide +kernel
theorem dX12_seats_110 : decode cX12_seats 110 = .ok (.getfield 21, 3) := by decide +kernel
theorem dX12_seats_113 : decode cX12_seats 113 = .ok (.iload_n 1, 1) := by decide +kernel
theorem dX12_seats_114 : decode cX12_seats 114 = .ok (.aload_n 0, 1) := by decide +kernel
theorem dX12_seats_115 : decode cX12_seats 115 = .ok (.iload_n 1, 1) := by decide +kernel
theorem dX12_seats_116 : decode cX12_seats 116 = .ok (.aload_n 0, 1) := by decide +kernel
theorem dX12_seats_117 : decode cX12_seats 117 = .ok (.getfield 21, 3) := by decide +kernel
theorem dX12_seats_120 : decode cX12_seats 120 = .ok (.iload_n 1, 1) := by decide +kernel
theorem dX12_seats_121 : decode cX12_seats 121 = .ok (.iaload, 1) := by decide +kernel
theorem dX12_seats_122 : decode cX12_seats 122 = .ok (.iconst 1, 1) := by decide +kernel
theorem dX12_seats_123 : decode cX12_seats 123 = .ok (.iadd, 1) := by decide +kernel
theorem dX12_seats_124 : decode cX12_seats 124 = .ok (.invokevirtual 389, 3) := by decide +kernel
theorem dX12_seats_127 : decode cX12_seats 127 = .ok (.iastore, 1) := by decide +kernel
theorem dX12_seats_128 : decode cX12_seats 128 = .ok (.goto (-103), 3) := by decide +kernel
theorem dX12_seats_131 : decode cX12_seats 131 = .ok (.return_, 1) := by decide +kernel
theorem dX12_seating_0 : decode cX12_seating 0 = .ok (.aload_n 0, 1) := by decide +kernel
theorem dX12_seating_1 : decode cX12_seating 1 = .ok (.iconst 0, 1) := by decide +kernel
theorem dX12_seating_2 : decode cX12_seating 2 = .ok (.putfield 39, 3) := by decide +kernel
theorem dX12_seating_5 : decode cX12_seating 5 = .ok (.aload_n 0, 1) := by decide +kernel
theorem dX12_seating_6 : decode cX12_seating 6 = .ok (.getfield 298, 3) := by decide +kernel
theorem dX12_seating_9 : decode cX12_seating 9 = .ok (.ifnonnull 9, 3) := by decide +kernel
theorem dX12_seating_12 : decode cX12_seating 12 = .ok (.aload_n 0, 1) := by decide +kernel
theorem dX12_seating_13 : decode cX12_seating 13 = .ok (.iconst 1, 1) := by decide +kernel
theorem dX12_seating_14 : decode cX12_seating 14 = .ok (.invokevirtual 45, 3) := by decide +kernel
theorem dX12_seating_17 : decode cX12_seating 17 = .ok (.ireturn, 1) := by decide +kernel
theorem dX12_seating_18 : decode cX12_seating 18 = .ok (.aload_n 0, 1) := by decide +kernel
theorem dX12_seating_19 : decode cX12_seating 19 = .ok (.invokevirtual 395, 3) := by decide +kernel
theorem dX12_seating_22 : decode cX12_seating 22 = .ok (.aload_n 0, 1) := by decide +kernel
theorem dX12_seating_23 : decode cX12_seating 23 = .ok (.aload_n 0, 1) := by decide +kernel
theorem dX12_seating_24 : decode cX12_seating 24 = .ok (.getfield 382, 3) := by decide +kernel
theorem dX12_seating_27 : decode cX12_seating 27 = .ok (.invokevirtual 49, 3) := by decide +kernel
theorem dX12_seating_30 : decode cX12_seating 30 = .ok (.ireturn, 1) := by decide +kernel
theorem dX12_seatAt_0 : decode cX12_seatAt 0 = .ok (.aload_n 0, 1) := by decide +kernel
theorem dX12_seatAt_1 : decode cX12_seatAt 1 = .ok (.iconst 0, 1) := by decide +kernel
theorem dX12_seatAt_2 : decode cX12_seatAt 2 = .ok (.putfield 39, 3) := by decide +kernel
theorem dX12_seatAt_5 : decode cX12_seatAt 5 = .ok (.aload_n 0, 1) := by decide +kernel
theorem dX12_seatAt_6 : decode cX12_seatAt 6 = .ok (.iload_n 1, 1) := by decide +kernel
theorem dX12_seatAt_7 : decode cX12_seatAt 7 = .ok (.invokevirtual 309, 3) := by decide +kernel
theorem dX12_seatAt_10 : decode cX12_seatAt 10 = .ok (.ifCond .ne 9, 3) := by decide +kernel
theorem dX12_seatAt_13 : decode cX12_seatAt 13 = .ok (.aload_n 0, 1) := by decide +kernel
theorem dX12_seatAt_14 : decode cX12_seatAt 14 = .ok (.iconst 1, 1) := by decide +kernel
theorem dX12_seatAt_15 : decode cX12_seatAt 15 = .ok (.invokevirtual 45, 3) := by decide +kernel
theorem dX12_seatAt_18 : decode cX12_seatAt 18 = .ok (.ireturn, 1) := by decide +kernel
theorem dX12_seatAt_19 : decode cX12_seatAt 19 = .ok (.aload_n 0, 1) := by decide +kernel
theorem dX12_seatAt_20 : decode cX12_seatAt 20 = .ok (.invokevirtual 395, 3) := by decide +kernel
theorem dX12_seatAt_23 : decode cX12_seatAt 23 = .ok (.aload_n 0, 1) := by decide +kernel
theorem dX12_seatAt_24 : decode cX12_seatAt 24 = .ok (.aload_n 0, 1) := by decide +kernel
theorem dX12_seatAt_25 : decode cX12_seatAt 25 = .ok (.getfield 33, 3) := by decide +kernel
theorem dX12_seatAt_28 : decode cX12_seatAt 28 = .ok (.iload_n 1, 1) := by decide +kernel
theorem dX12_seatAt_29 : decode cX12_seatAt 29 = .ok (.iaload, 1) := by decide +kernel
theorem dX12_seatAt_30 : decode cX12_seatAt 30 = .ok (.invokevirtual 49, 3) := by decide +kernel
theorem dX12_seatAt_33 : decode cX12_seatAt 33 = .ok (.ireturn, 1) := by decide +kernel
theorem dX12_seatSlops_0 : decode cX12_seatSlops 0 = .ok (.aload_n 0, 1) := by decide +kernel
theorem dX12_seatSlops_1 : decode cX12_seatSlops 1 = .ok (.iconst 0, 1) := by decide +kernel
theorem dX12_seatSlops_2 : decode cX12_seatSlops 2 = .ok (.putfield 39, 3) := by decide +kernel
theorem dX12_seatSlops_5 : decode cX12_seatSlops 5 = .ok (.aload_n 0, 1) := by decide +kernel
theorem dX12_seatSlops_6 : decode cX12_seatSlops 6 = .ok (.getfield 298, 3) := by decide +kernel
theorem dX12_seatSlops_9 : decode cX12_seatSlops 9 = .ok (.ifnonnull 9, 3) := by decide +kernel
theorem dX12_seatSlops_12 : decode cX12_seatSlops 12 = .ok (.aload_n 0, 1) := by decide +kernel
theorem dX12_seatSlops_13 : decode cX12_seatSlops 13 = .ok (.iconst 1, 1) := by decide +kernel
theorem dX12_seatSlops_14 : decode cX12_seatSlops 14 = .ok (.invokevirtual 45, 3) := by decide +kernel
theorem dX12_seatSlops_17 : decode cX12_seatSlops 17 = .ok (.ireturn, 1) := by decide +kernel
theorem dX12_seatSlops_18 : decode cX12_seatSlops 18 = .ok (.aload_n 0, 1) := by decide +kernel
theorem dX12_seatSlops_19 : decode cX12_seatSlops 19 = .ok (.invokevirtual 395, 3) := by decide +kernel
theorem dX12_seatSlops_22 : decode cX12_seatSlops 22 = .ok (.aload_n 0, 1) := by decide +kernel
theorem dX12_seatSlops_23 : decode cX12_seatSlops 23 = .ok (.aload_n 0, 1) := by decide +kernel
theorem dX12_seatSlops_24 : decode cX12_seatSlops 24 = .ok (.getfield 385, 3) := by decide +kernel
theorem dX12_seatSlops_27 : decode cX12_seatSlops 27 = .ok (.invokevirtual 49, 3) := by decide +kernel
theorem dX12_seatSlops_30 : decode cX12_seatSlops 30 = .ok (.ireturn, 1) := by decide +kernel
theorem dX12_fedSwapped_0 : decode cX12_fedSwapped 0 = .ok (.aload_n 0, 1) := by decide +kernel
theorem dX12_fedSwapped_1 : decode cX12_fedSwapped 1 = .ok (.invokevirtual 333, 3) := by decide +kernel
theorem dX12_fedSwapped_4 : decode cX12_fedSwapped 4 = .ok (.aload_n 0, 1) := by decide +kernel
theorem dX12_fedSwapped_5 : decode cX12_fedSwapped 5 = .ok (.getfield 21, 3) := by decide +kernel
theorem dX12_fedSwapped_8 : decode cX12_fedSwapped 8 = .ok (.iload_n 1, 1) := by decide +kernel
theorem dX12_fedSwapped_9 : decode cX12_fedSwapped 9 = .ok (.iaload, 1) := by decide +kernel
theorem dX12_fedSwapped_10 : decode cX12_fedSwapped 10 = .ok (.istore_n 3, 1) := by decide +kernel
theorem dX12_fedSwapped_11 : decode cX12_fedSwapped 11 = .ok (.aload_n 0, 1) := by decide +kernel
theorem dX12_fedSwapped_12 : decode cX12_fedSwapped 12 = .ok (.getfield 21, 3) := by decide +kernel
theorem dX12_fedSwapped_15 : decode cX12_fedSwapped 15 = .ok (.iload_n 1, 1) := by decide +kernel
theorem dX12_fedSwapped_16 : decode cX12_fedSwapped 16 = .ok (.aload_n 0, 1) := by decide +kernel
theorem dX12_fedSwapped_17 : decode cX12_fedSwapped 17 = .ok (.getfield 21, 3) := by decide +kernel
theorem dX12_fedSwapped_20 : decode cX12_fedSwapped 20 = .ok (.iload_n 2, 1) := by decide +kernel
theorem dX12_fedSwapped_21 : decode cX12_fedSwapped 21 = .ok (.iaload, 1) := by decide +kernel
theorem dX12_fedSwapped_22 : decode cX12_fedSwapped 22 = .ok (.iastore, 1) := by decide +kernel
theorem dX12_fedSwapped_23 : decode cX12_fedSwapped 23 = .ok (.aload_n 0, 1) := by decide +kernel
theorem dX12_fedSwapped_24 : decode cX12_fedSwapped 24 = .ok (.getfield 21, 3) := by decide +kernel
theorem dX12_fedSwapped_27 : decode cX12_fedSwapped 27 = .ok (.iload_n 2, 1) := by decide +kernel
theorem dX12_fedSwapped_28 : decode cX12_fedSwapped 28 = .ok (.iload_n 3, 1) := by decide +kernel
theorem dX12_fedSwapped_29 : decode cX12_fedSwapped 29 = .ok (.iastore, 1) := by decide +kernel
theorem dX12_fedSwapped_30 : decode cX12_fedSwapped 30 = .ok (.aload_n 0, 1) := by decide +kernel
theorem dX12_fedSwapped_31 : decode cX12_fedSwapped 31 = .ok (.invokevirtual 366, 3) := by decide +kernel
theorem dX12_fedSwapped_34 : decode cX12_fedSwapped 34 = .ok (.ireturn, 1) := by decide +kernel
theorem dX12_swapped_0 : decode cX12_swapped 0 = .ok (.aload_n 0, 1) := by decide +kernel
theorem dX12_swapped_1 : decode cX12_swapped 1 = .ok (.iconst 0, 1) := by decide +kernel
theorem dX12_swapped_2 : decode cX12_swapped 2 = .ok (.putfield 39, 3) := by decide +kernel
theorem dX12_swapped_5 : decode cX12_swapped 5 = .ok (.aload_n 0, 1) := by decide +kernel
theorem dX12_swapped_6 : decode cX12_swapped 6 = .ok (.iload_n 1, 1) := by decide +kernel
theorem dX12_swapped_7 : decode cX12_swapped 7 = .ok (.iload_n 2, 1) := by decide +kernel
theorem dX12_swapped_8 : decode cX12_swapped 8 = .ok (.invokevirtual 342, 3) := by decide +kernel
theorem dX12_swapped_11 : decode cX12_swapped 11 = .ok (.ifCond .eq 16, 3) := by decide +kernel
theorem dX12_swapped_14 : decode cX12_swapped 14 = .ok (.aload_n 0, 1) := by decide +kernel
theorem dX12_swapped_15 : decode cX12_swapped 15 = .ok (.aload_n 0, 1) := by decide +kernel
theorem dX12_swapped_16 : decode cX12_swapped 16 = .ok (.iload_n 1, 1) := by decide +kernel
theorem dX12_swapped_17 : decode cX12_swapped 17 = .ok (.iload_n 2, 1) := by decide +kernel
theorem dX12_swapped_18 : decode cX12_swapped 18 = .ok (.invokevirtual 397, 3) := by decide +kernel
theorem dX12_swapped_21 : decode cX12_swapped 21 = .ok (.invokevirtual 49, 3) := by decide +kernel
theorem dX12_swapped_24 : decode cX12_swapped 24 = .ok (.goto 8, 3) := by decide +kernel
theorem dX12_swapped_27 : decode cX12_swapped 27 = .ok (.aload_n 0, 1) := by decide +kernel
theorem dX12_swapped_28 : decode cX12_swapped 28 = .ok (.iconst 1, 1) := by decide +kernel
theorem dX12_swapped_29 : decode cX12_swapped 29 = .ok (.invokevirtual 45, 3) := by decide +kernel
theorem dX12_swapped_32 : decode cX12_swapped 32 = .ok (.ireturn, 1) := by decide +kernel
theorem dX12_bestSwap_0 : decode cX12_bestSwap 0 = .ok (.aload_n 0, 1) := by decide +kernel
theorem dX12_bestSwap_1 : decode cX12_bestSwap 1 = .ok (.iconst 0, 1) := by decide +kernel
theorem dX12_bestSwap_2 : decode cX12_bestSwap 2 = .ok (.putfield 39, 3) := by decide +kernel
theorem dX12_bestSwap_5 : decode cX12_bestSwap 5 = .ok (.aload_n 0, 1) := by decide +kernel
theorem dX12_bestSwap_6 : decode cX12_bestSwap 6 = .ok (.getfield 298, 3) := by decide +kernel
theorem dX12_bestSwap_9 : decode cX12_bestSwap 9 = .ok (.ifnonnull 9, 3) := by decide +kernel
theorem dX12_bestSwap_12 : decode cX12_bestSwap 12 = .ok (.aload_n 0, 1) := by decide +kernel
theorem dX12_bestSwap_13 : decode cX12_bestSwap 13 = .ok (.iconst 1, 1) := by decide +kernel
theorem dX12_bestSwap_14 : decode cX12_bestSwap 14 = .ok (.invokevirtual 45, 3) := by decide +kernel
theorem dX12_bestSwap_17 : decode cX12_bestSwap 17 = .ok (.ireturn, 1) := by decide +kernel
theorem dX12_bestSwap_18 : decode cX12_bestSwap 18 = .ok (.aload_n 0, 1) := by decide +kernel
theorem dX12_bestSwap_19 : decode cX12_bestSwap 19 = .ok (.invokevirtual 333, 3) := by decide +kernel
theorem dX12_bestSwap_22 : decode cX12_bestSwap 22 = .ok (.aload_n 0, 1) := by decide +kernel
theorem dX12_bestSwap_23 : decode cX12_bestSwap 23 = .ok (.invokevirtual 366, 3) := by decide +kernel
theorem dX12_bestSwap_26 : decode cX12_bestSwap 26 = .ok (.istore_n 1, 1) := by decide +kernel
theorem dX12_bestSwap_27 : decode cX12_bestSwap 27 = .ok (.bipush (-2), 2) := by decide +kernel
theorem dX12_bestSwap_29 : decode cX12_bestSwap 29 = .ok (.istore_n 2, 1) := by decide +kernel
theorem dX12_bestSwap_30 : decode cX12_bestSwap 30 = .ok (.iconst 0, 1) := by decide +kernel
theorem dX12_bestSwap_31 : decode cX12_bestSwap 31 = .ok (.istore_n 3, 1) := by decide +kernel
theorem dX12_bestSwap_32 : decode cX12_bestSwap 32 = .ok (.iload_n 3, 1) := by decide +kernel
theorem dX12_bestSwap_33 : decode cX12_bestSwap 33 = .ok (.aload_n 0, 1) := by decide +kernel
theorem dX12_bestSwap_34 : decode cX12_bestSwap 34 = .ok (.getfield 298, 3) := by decide +kernel
theorem dX12_bestSwap_37 : decode cX12_bestSwap 37 = .ok (.getfield 177, 3) := by decide +kernel
theorem dX12_bestSwap_40 : decode cX12_bestSwap 40 = .ok (.if_icmp .ge 61, 3) := by decide +kernel
theorem dX12_bestSwap_43 : decode cX12_bestSwap 43 = .ok (.iload_n 3, 1) := by decide +kernel
theorem dX12_bestSwap_44 : decode cX12_bestSwap 44 = .ok (.iconst 1, 1) := by decide +kernel
theorem dX12_bestSwap_45 : decode cX12_bestSwap 45 = .ok (.iadd, 1) := by decide +kernel
theorem dX12_bestSwap_46 : decode cX12_bestSwap 46 = .ok (.istore 4, 2) := by decide +kernel
theorem dX12_bestSwap_48 : decode cX12_bestSwap 48 = .ok (.iload 4, 2) := by decide +kernel
theorem dX12_bestSwap_50 : decode cX12_bestSwap 50 = .ok (.aload_n 0, 1) := by decide +kernel
theorem dX12_bestSwap_51 : decode cX12_bestSwap 51 = .ok (.getfield 298, 3) := by decide +kernel
theorem dX12_bestSwap_54 : decode cX12_bestSwap 54 = .ok (.getfield 177, 3) := by decide +kernel
theorem dX12_bestSwap_57 : decode cX12_bestSwap 57 = .ok (.if_icmp .ge 38, 3) := by decide +kernel
theorem dX12_bestSwap_60 : decode cX12_bestSwap 60 = .ok (.aload_n 0, 1) := by decide +kernel
theorem dX12_bestSwap_61 : decode cX12_bestSwap 61 = .ok (.iload_n 3, 1) := by decide +kernel
theorem dX12_bestSwap_62 : decode cX12_bestSwap 62 = .ok (.iload 4, 2) := by decide +kernel
theorem dX12_bestSwap_64 : decode cX12_bestSwap 64 = .ok (.invokevirtual 397, 3) := by decide +kernel
theorem dX12_bestSwap_67 : decode cX12_bestSwap 67 = .ok (.istore 5, 2) := by decide +kernel
theorem dX12_bestSwap_69 : decode cX12_bestSwap 69 = .ok (.iload 5, 2) := by decide +kernel
theorem dX12_bestSwap_71 : decode cX12_bestSwap 71 = .ok (.iload_n 1, 1) := by decide +kernel
theorem dX12_bestSwap_72 : decode cX12_bestSwap 72 = .ok (.if_icmp .gt 6, 3) := by decide +kernel
theorem dX12_bestSwap_75 : decode cX12_bestSwap 75 = .ok (.goto 14, 3) := by decide +kernel
theorem dX12_bestSwap_78 : decode cX12_bestSwap 78 = .ok (.iload 5, 2) := by decide +kernel
theorem dX12_bestSwap_80 : decode cX12_bestSwap 80 = .ok (.istore_n 1, 1) := by decide +kernel
theorem dX12_bestSwap_81 : decode cX12_bestSwap 81 = .ok (.bipush 10, 2) := by decide +kernel
theorem dX12_bestSwap_83 : decode cX12_bestSwap 83 = .ok (.iload_n 3, 1) := by decide +kernel
theorem dX12_bestSwap_84 : decode cX12_bestSwap 84 = .ok (.imul, 1) := by decide +kernel
theorem dX12_bestSwap_85 : decode cX12_bestSwap 85 = .ok (.iload 4, 2) := by decide +kernel
theorem dX12_bestSwap_87 : decode cX12_bestSwap 87 = .ok (.iadd, 1) := by decide +kernel
theorem dX12_bestSwap_88 : decode cX12_bestSwap 88 = .ok (.istore_n 2, 1) := by decide +kernel
theorem dX12_bestSwap_89 : decode cX12_bestSwap 89 = .ok (.iinc 4 1, 3) := by decide +kernel
theorem dX12_bestSwap_92 : decode cX12_bestSwap 92 = .ok (.goto (-44), 3) := by decide +kernel
theorem dX12_bestSwap_95 : decode cX12_bestSwap 95 = .ok (.iinc 3 1, 3) := by decide +kernel
theorem dX12_bestSwap_98 : decode cX12_bestSwap 98 = .ok (.goto (-66), 3) := by decide +kernel
theorem dX12_bestSwap_101 : decode cX12_bestSwap 101 = .ok (.aload_n 0, 1) := by decide +kernel
theorem dX12_bestSwap_102 : decode cX12_bestSwap 102 = .ok (.iload_n 2, 1) := by decide +kernel
theorem dX12_bestSwap_103 : decode cX12_bestSwap 103 = .ok (.invokevirtual 49, 3) := by decide +kernel
theorem dX12_bestSwap_106 : decode cX12_bestSwap 106 = .ok (.ireturn, 1) := by decide +kernel
theorem dX12_isSat_0 : decode cX12_isSat 0 = .ok (.iconst 0, 1) := by decide +kernel
theorem dX12_isSat_1 : decode cX12_isSat 1 = .ok (.istore_n 2, 1) := by decide +kernel
theorem dX12_isSat_2 : decode cX12_isSat 2 = .ok (.iload_n 2, 1) := by decide +kernel
theorem dX12_isSat_3 : decode cX12_isSat 3 = .ok (.aload_n 0, 1) := by decide +kernel
theorem dX12_isSat_4 : decode cX12_isSat 4 = .ok (.getfield 298, 3) := by decide +kernel
theorem dX12_isSat_7 : decode cX12_isSat 7 = .ok (.getfield 177, 3) := by decide +kernel
theorem dX12_isSat_10 : decode cX12_isSat 10 = .ok (.if_icmp .ge 21, 3) := by decide +kernel
theorem dX12_isSat_13 : decode cX12_isSat 13 = .ok (.aload_n 0, 1) := by decide +kernel
theorem dX12_isSat_14 : decode cX12_isSat 14 = .ok (.getfield 17, 3) := by decide +kernel
theorem dX12_isSat_17 : decode cX12_isSat 17 = .ok (.iload_n 2, 1) := by decide +kernel
theorem dX12_isSat_18 : decode cX12_isSat 18 = .ok (.iaload, 1) := by decide +kernel
theorem dX12_isSat_19 : decode cX12_isSat 19 = .ok (.iload_n 1, 1) := by decide +kernel
theorem dX12_isSat_20 : decode cX12_isSat 20 = .ok (.if_icmp .ne 5, 3) := by decide +kernel
theorem dX12_isSat_23 : decode cX12_isSat 23 = .ok (.iconst 1, 1) := by decide +kernel
theorem dX12_isSat_24 : decode cX12_isSat 24 = .ok (.ireturn, 1) := by decide +kernel
theorem dX12_isSat_25 : decode cX12_isSat 25 = .ok (.iinc 2 1, 3) := by decide +kernel
theorem dX12_isSat_28 : decode cX12_isSat 28 = .ok (.goto (-26), 3) := by decide +kernel
theorem dX12_isSat_31 : decode cX12_isSat 31 = .ok (.iconst 0, 1) := by decide +kernel
theorem dX12_isSat_32 : decode cX12_isSat 32 = .ok (.ireturn, 1) := by decide +kernel
theorem dX12_better_0 : decode cX12_better 0 = .ok (.aload_n 0, 1) := by decide +kernel
theorem dX12_better_1 : decode cX12_better 1 = .ok (.iconst 0, 1) := by decide +kernel
theorem dX12_better_2 : decode cX12_better 2 = .ok (.putfield 39, 3) := by decide +kernel
theorem dX12_better_5 : decode cX12_better 5 = .ok (.aload_n 0, 1) := by decide +kernel
theorem dX12_better_6 : decode cX12_better 6 = .ok (.iload_n 1, 1) := by decide +kernel
theorem dX12_better_7 : decode cX12_better 7 = .ok (.invokevirtual 309, 3) := by decide +kernel
theorem dX12_better_10 : decode cX12_better 10 = .ok (.ifCond .ne 9, 3) := by decide +kernel
theorem dX12_better_13 : decode cX12_better 13 = .ok (.aload_n 0, 1) := by decide +kernel
theorem dX12_better_14 : decode cX12_better 14 = .ok (.iconst 1, 1) := by decide +kernel
theorem dX12_better_15 : decode cX12_better 15 = .ok (.invokevirtual 45, 3) := by decide +kernel
theorem dX12_better_18 : decode cX12_better 18 = .ok (.ireturn, 1) := by decide +kernel
theorem dX12_better_19 : decode cX12_better 19 = .ok (.aload_n 0, 1) := by decide +kernel
theorem dX12_better_20 : decode cX12_better 20 = .ok (.invokevirtual 333, 3) := by decide +kernel
theorem dX12_better_23 : decode cX12_better 23 = .ok (.aload_n 0, 1) := by decide +kernel
theorem dX12_better_24 : decode cX12_better 24 = .ok (.invokevirtual 366, 3) := by decide +kernel
theorem dX12_better_27 : decode cX12_better 27 = .ok (.istore_n 2, 1) := by decide +kernel
theorem dX12_better_28 : decode cX12_better 28 = .ok (.bipush (-2), 2) := by decide +kernel
theorem dX12_better_30 : decode cX12_better 30 = .ok (.istore_n 3, 1) := by decide +kernel
theorem dX12_better_31 : decode cX12_better 31 = .ok (.iconst 0, 1) := by decide +kernel
theorem dX12_better_32 : decode cX12_better 32 = .ok (.istore 4, 2) := by decide +kernel
theorem dX12_better_34 : decode cX12_better 34 = .ok (.iload 4, 2) := by decide +kernel
theorem dX12_better_36 : decode cX12_better 36 = .ok (.aload_n 0, 1) := by decide +kernel
theorem dX12_better_37 : decode cX12_better 37 = .ok (.getfield 298, 3) := by decide +kernel
theorem dX12_better_40 : decode cX12_better 40 = .ok (.getfield 149, 3) := by decide +kernel
theorem dX12_better_43 : decode cX12_better 43 = .ok (.if_icmp .ge 50, 3) := by decide +kernel
theorem dX12_better_46 : decode cX12_better 46 = .ok (.aload_n 0, 1) := by decide +kernel
theorem dX12_better_47 : decode cX12_better 47 = .ok (.iload 4, 2) := by decide +kernel
theorem dX12_better_49 : decode cX12_better 49 = .ok (.invokevirtual 400, 3) := by decide +kernel
theorem dX12_better_52 : decode cX12_better 52 = .ok (.ifCond .eq 6, 3) := by decide +kernel
theorem dX12_better_55 : decode cX12_better 55 = .ok (.goto 32, 3) := by decide +kernel
theorem dX12_better_58 : decode cX12_better 58 = .ok (.aload_n 0, 1) := by decide +kernel
theorem dX12_better_59 : decode cX12_better 59 = .ok (.getfield 21, 3) := by decide +kernel
theorem dX12_better_62 : decode cX12_better 62 = .ok (.iload_n 1, 1) := by decide +kernel
theorem dX12_better_63 : decode cX12_better 63 = .ok (.iload 4, 2) := by decide +kernel
theorem dX12_better_65 : decode cX12_better 65 = .ok (.iastore, 1) := by decide +kernel
theorem dX12_better_66 : decode cX12_better 66 = .ok (.aload_n 0, 1) := by decide +kernel
theorem dX12_better_67 : decode cX12_better 67 = .ok (.invokevirtual 366, 3) := by decide +kernel
theorem dX12_better_70 : decode cX12_better 70 = .ok (.istore 5, 2) := by decide +kernel
theorem dX12_better_72 : decode cX12_better 72 = .ok (.iload 5, 2) := by decide +kernel
theorem dX12_better_74 : decode cX12_better 74 = .ok (.iload_n 2, 1) := by decide +kernel
theorem dX12_better_75 : decode cX12_better 75 = .ok (.if_icmp .gt 6, 3) := by decide +kernel
theorem dX12_better_78 : decode cX12_better 78 = .ok (.goto 9, 3) := by decide +kernel
theorem dX12_better_81 : decode cX12_better 81 = .ok (.iload 5, 2) := by decide +kernel
theorem dX12_better_83 : decode cX12_better 83 = .ok (.istore_n 2, 1) := by decide +kernel
theorem dX12_better_84 : decode cX12_better 84 = .ok (.iload 4, 2) := by decide +kernel
theorem dX12_better_86 : decode cX12_better 86 = .ok (.istore_n 3, 1) := by decide +kernel
theorem dX12_better_87 : decode cX12_better 87 = .ok (.iinc 4 1, 3) := by decide +kernel
theorem dX12_better_90 : decode cX12_better 90 = .ok (.goto (-56), 3) := by decide +kernel
theorem dX12_better_93 : decode cX12_better 93 = .ok (.aload_n 0, 1) := by decide +kernel
theorem dX12_better_94 : decode cX12_better 94 = .ok (.iload_n 3, 1) := by decide +kernel
theorem dX12_better_95 : decode cX12_better 95 = .ok (.invokevirtual 49, 3) := by decide +kernel
theorem dX12_better_98 : decode cX12_better 98 = .ok (.ireturn, 1) := by decide +kernel
theorem dX12_forkAt_0 : decode cX12_forkAt 0 = .ok (.aload_n 0, 1) := by decide +kernel
theorem dX12_forkAt_1 : decode cX12_forkAt 1 = .ok (.iconst 0, 1) := by decide +kernel
theorem dX12_forkAt_2 : decode cX12_forkAt 2 = .ok (.putfield 39, 3) := by decide +kernel
theorem dX12_forkAt_5 : decode cX12_forkAt 5 = .ok (.aload_n 0, 1) := by decide +kernel
theorem dX12_forkAt_6 : decode cX12_forkAt 6 = .ok (.getfield 298, 3) := by decide +kernel
theorem dX12_forkAt_9 : decode cX12_forkAt 9 = .ok (.ifnonnull 9, 3) := by decide +kernel
theorem dX12_forkAt_12 : decode cX12_forkAt 12 = .ok (.aload_n 0, 1) := by decide +kernel
theorem dX12_forkAt_13 : decode cX12_forkAt 13 = .ok (.iconst 1, 1) := by decide +kernel
theorem dX12_forkAt_14 : decode cX12_forkAt 14 = .ok (.invokevirtual 45, 3) := by decide +kernel
theorem dX12_forkAt_17 : decode cX12_forkAt 17 = .ok (.ireturn, 1) := by decide +kernel
theorem dX12_forkAt_18 : decode cX12_forkAt 18 = .ok (.aload_n 0, 1) := by decide +kernel
theorem dX12_forkAt_19 : decode cX12_forkAt 19 = .ok (.invokevirtual 333, 3) := by decide +kernel
theorem dX12_forkAt_22 : decode cX12_forkAt 22 = .ok (.ldc_w 388, 3) := by decide +kernel
theorem dX12_forkAt_25 : decode cX12_forkAt 25 = .ok (.istore_n 1, 1) := by decide +kernel
theorem dX12_forkAt_26 : decode cX12_forkAt 26 = .ok (.bipush (-2), 2) := by decide +kernel
theorem dX12_forkAt_28 : decode cX12_forkAt 28 = .ok (.istore_n 2, 1) := by decide +kernel
theorem dX12_forkAt_29 : decode cX12_forkAt 29 = .ok (.iconst 0, 1) := by decide +kernel
theorem dX12_forkAt_30 : decode cX12_forkAt 30 = .ok (.istore_n 3, 1) := by decide +kernel
theorem dX12_forkAt_31 : decode cX12_forkAt 31 = .ok (.iload_n 3, 1) := by decide +kernel
theorem dX12_forkAt_32 : decode cX12_forkAt 32 = .ok (.aload_n 0, 1) := by decide +kernel
theorem dX12_forkAt_33 : decode cX12_forkAt 33 = .ok (.getfield 298, 3) := by decide +kernel
theorem dX12_forkAt_36 : decode cX12_forkAt 36 = .ok (.getfield 149, 3) := by decide +kernel
theorem dX12_forkAt_39 : decode cX12_forkAt 39 = .ok (.if_icmp .ge 67, 3) := by decide +kernel
theorem dX12_forkAt_42 : decode cX12_forkAt 42 = .ok (.aload_n 0, 1) := by decide +kernel
theorem dX12_forkAt_43 : decode cX12_forkAt 43 = .ok (.getfield 17, 3) := by decide +kernel
theorem dX12_forkAt_46 : decode cX12_forkAt 46 = .ok (.bipush 56, 2) := by decide +kernel
theorem dX12_forkAt_48 : decode cX12_forkAt 48 = .ok (.iaload, 1) := by decide +kernel
theorem dX12_forkAt_49 : decode cX12_forkAt 49 = .ok (.iload_n 3, 1) := by decide +kernel
theorem dX12_forkAt_50 : decode cX12_forkAt 50 = .ok (.invokestatic 237, 3) := by decide +kernel
theorem dX12_forkAt_53 : decode cX12_forkAt 53 = .ok (.ifCond .eq 6, 3) := by decide +kernel
theorem dX12_forkAt_56 : decode cX12_forkAt 56 = .ok (.goto 44, 3) := by decide +kernel
theorem dX12_forkAt_59 : decode cX12_forkAt 59 = .ok (.aload_n 0, 1) := by decide +kernel
theorem dX12_forkAt_60 : decode cX12_forkAt 60 = .ok (.getfield 21, 3) := by decide +kernel
theorem dX12_forkAt_63 : decode cX12_forkAt 63 = .ok (.bipush 56, 2) := by decide +kernel
theorem dX12_forkAt_65 : decode cX12_forkAt 65 = .ok (.aload_n 0, 1) := by decide +kernel
theorem dX12_forkAt_66 : decode cX12_forkAt 66 = .ok (.getfield 17, 3) := by decide +kernel
theorem dX12_forkAt_69 : decode cX12_forkAt 69 = .ok (.bipush 56, 2) := by decide +kernel
theorem dX12_forkAt_71 : decode cX12_forkAt 71 = .ok (.iaload, 1) := by decide +kernel
theorem dX12_forkAt_72 : decode cX12_forkAt 72 = .ok (.iconst 1, 1) := by decide +kernel
theorem dX12_forkAt_73 : decode cX12_forkAt 73 = .ok (.iload_n 3, 1) := by decide +kernel
theorem dX12_forkAt_74 : decode cX12_forkAt 74 = .ok (.ishl, 1) := by decide +kernel
theorem dX12_forkAt_75 : decode cX12_forkAt 75 = .ok (.ior, 1) := by decide +kernel
theorem dX12_forkAt_76 : decode cX12_forkAt 76 = .ok (.iastore, 1) := by decide +kernel
theorem dX12_forkAt_77 : decode cX12_forkAt 77 = .ok (.aload_n 0, 1) := by decide +kernel
theorem dX12_forkAt_78 : decode cX12_forkAt 78 = .ok (.invokevirtual 366, 3) := by decide +kernel
theorem dX12_forkAt_81 : decode cX12_forkAt 81 = .ok (.pop, 1) := by decide +kernel
theorem dX12_forkAt_82 : decode cX12_forkAt 82 = .ok (.aload_n 0, 1) := by decide +kernel
theorem dX12_forkAt_83 : decode cX12_forkAt 83 = .ok (.getfield 357, 3) := by decide +kernel
theorem dX12_forkAt_86 : decode cX12_forkAt 86 = .ok (.iload_n 1, 1) := by decide +kernel
theorem dX12_forkAt_87 : decode cX12_forkAt 87 = .ok (.if_icmp .lt 6, 3) := by decide +kernel
theorem dX12_forkAt_90 : decode cX12_forkAt 90 = .ok (.goto 10, 3) := by decide +kernel
theorem dX12_forkAt_93 : decode cX12_forkAt 93 = .ok (.aload_n 0, 1) := by decide +kernel
theorem dX12_forkAt_94 : decode cX12_forkAt 94 = .ok (.getfield 357, 3) := by decide +kernel
theorem dX12_forkAt_97 : decode cX12_forkAt 97 = .ok (.istore_n 1, 1) := by decide +kernel
theorem dX12_forkAt_98 : decode cX12_forkAt 98 = .ok (.iload_n 3, 1) := by decide +kernel
theorem dX12_forkAt_99 : decode cX12_forkAt 99 = .ok (.istore_n 2, 1) := by decide +kernel
theorem dX12_forkAt_100 : decode cX12_forkAt 100 = .ok (.iinc 3 1, 3) := by decide +kernel
theorem dX12_forkAt_103 : decode cX12_forkAt 103 = .ok (.goto (-72), 3) := by decide +kernel
theorem dX12_forkAt_106 : decode cX12_forkAt 106 = .ok (.aload_n 0, 1) := by decide +kernel
theorem dX12_forkAt_107 : decode cX12_forkAt 107 = .ok (.iload_n 2, 1) := by decide +kernel
theorem dX12_forkAt_108 : decode cX12_forkAt 108 = .ok (.invokevirtual 49, 3) := by decide +kernel
theorem dX12_forkAt_111 : decode cX12_forkAt 111 = .ok (.ireturn, 1) := by decide +kernel
theorem dX12_inchesOf_0 : decode cX12_inchesOf 0 = .ok (.aload_n 0, 1) := by decide +kernel
theorem dX12_inchesOf_1 : decode cX12_inchesOf 1 = .ok (.iload_n 1, 1) := by decide +kernel
theorem dX12_inchesOf_2 : decode cX12_inchesOf 2 = .ok (.invokevirtual 321, 3) := by decide +kernel
theorem dX12_inchesOf_5 : decode cX12_inchesOf 5 = .ok (.istore_n 2, 1) := by decide +kernel
theorem dX12_inchesOf_6 : decode cX12_inchesOf 6 = .ok (.aload_n 0, 1) := by decide +kernel
theorem dX12_inchesOf_7 : decode cX12_inchesOf 7 = .ok (.getfield 21, 3) := by decide +kernel
theorem dX12_inchesOf_10 : decode cX12_inchesOf 10 = .ok (.bipush 45, 2) := by decide +kernel
theorem dX12_inchesOf_12 : decode cX12_inchesOf 12 = .ok (.iload_n 1, 1) := by decide +kernel
theorem dX12_inchesOf_13 : decode cX12_inchesOf 13 = .ok (.iadd, 1) := by decide +kernel
theorem dX12_inchesOf_14 : decode cX12_inchesOf 14 = .ok (.iaload, 1) := by decide +kernel
theorem dX12_inchesOf_15 : decode cX12_inchesOf 15 = .ok (.iconst 2, 1) := by decide +kernel
theorem dX12_inchesOf_16 : decode cX12_inchesOf 16 = .ok (.if_icmp .ne 20, 3) := by decide +kernel
theorem dX12_inchesOf_19 : decode cX12_inchesOf 19 = .ok (.aload_n 0, 1) := by decide +kernel
theorem dX12_inchesOf_20 : decode cX12_inchesOf 20 = .ok (.iload_n 1, 1) := by decide +kernel
theorem dX12_inchesOf_21 : decode cX12_inchesOf 21 = .ok (.iload_n 2, 1) := by decide +kernel
theorem dX12_inchesOf_22 : decode cX12_inchesOf 22 = .ok (.invokevirtual 324, 3) := by decide +kernel
theorem dX12_inchesOf_25 : decode cX12_inchesOf 25 = .ok (.ifCond .eq 7, 3) := by decide +kernel
theorem dX12_inchesOf_28 : decode cX12_inchesOf 28 = .ok (.iconst 0, 1) := by decide +kernel
theorem dX12_inchesOf_29 : decode cX12_inchesOf 29 = .ok (.goto 6, 3) := by decide +kernel
theorem dX12_inchesOf_32 : decode cX12_inchesOf 32 = .ok (.ldc_w 388, 3) := by decide +kernel
theorem dX12_inchesOf_35 : decode cX12_inchesOf 35 = .ok (.ireturn, 1) := by decide +kernel
theorem dX12_inchesOf_36 : decode cX12_inchesOf 36 = .ok (.iconst 0, 1) := by decide +kernel
theorem dX12_inchesOf_37 : decode cX12_inchesOf 37 = .ok (.istore_n 3, 1) := by decide +kernel
theorem dX12_inchesOf_38 : decode cX12_inchesOf 38 = .ok (.iload_n 3, 1) := by decide +kernel
theorem dX12_inchesOf_39 : decode cX12_inchesOf 39 = .ok (.iload_n 2, 1) := by decide +kernel
theorem dX12_inchesOf_40 : decode cX12_inchesOf 40 = .ok (.if_icmp .gt 22, 3) := by decide +kernel
theorem dX12_inchesOf_43 : decode cX12_inchesOf 43 = .ok (.aload_n 0, 1) := by decide +kernel
theorem dX12_inchesOf_44 : decode cX12_inchesOf 44 = .ok (.iload_n 1, 1) := by decide +kernel
theorem dX12_inchesOf_45 : decode cX12_inchesOf 45 = .ok (.iload_n 2, 1) := by decide +kernel
theorem dX12_inchesOf_46 : decode cX12_inchesOf 46 = .ok (.iload_n 3, 1) := by decide +kernel
theorem dX12_inchesOf_47 : decode cX12_inchesOf 47 = .ok (.isub, 1) := by decide +kernel
theorem dX12_inchesOf_48 : decode cX12_inchesOf 48 = .ok (.invokevirtual 324, 3) := by decide +kernel
theorem dX12_inchesOf_51 : decode cX12_inchesOf 51 = .ok (.ifCond .eq 5, 3) := by decide +kernel
theorem dX12_inchesOf_54 : decode cX12_inchesOf 54 = .ok (.iload_n 3, 1) := by decide +kernel
theorem dX12_inchesOf_55 : decode cX12_inchesOf 55 = .ok (.ireturn, 1) := by decide +kernel
theorem dX12_inchesOf_56 : decode cX12_inchesOf 56 = .ok (.iinc 3 1, 3) := by decide +kernel
theorem dX12_inchesOf_59 : decode cX12_inchesOf 59 = .ok (.goto (-21), 3) := by decide +kernel
theorem dX12_inchesOf_62 : decode cX12_inchesOf 62 = .ok (.ldc_w 388, 3) := by decide +kernel
theorem dX12_inchesOf_65 : decode cX12_inchesOf 65 = .ok (.ireturn, 1) := by decide +kernel
theorem dX12_triesSaw_0 : decode cX12_triesSaw 0 = .ok (.iload_n 2, 1) := by decide +kernel
theorem dX12_triesSaw_1 : decode cX12_triesSaw 1 = .ok (.ldc_w 388, 3) := by decide +kernel
theorem dX12_triesSaw_4 : decode cX12_triesSaw 4 = .ok (.if_icmp .ge 36, 3) := by decide +kernel
theorem dX12_triesSaw_7 : decode cX12_triesSaw 7 = .ok (.aload_n 0, 1) := by decide +kernel
theorem dX12_triesSaw_8 : decode cX12_triesSaw 8 = .ok (.getfield 403, 3) := by decide +kernel
theorem dX12_triesSaw_11 : decode cX12_triesSaw 11 = .ok (.bipush (-2), 2) := by decide +kernel
theorem dX12_triesSaw_13 : decode cX12_triesSaw 13 = .ok (.if_icmp .eq 28, 3) := by decide +kernel
theorem dX12_triesSaw_16 : decode cX12_triesSaw 16 = .ok (.iload_n 2, 1) := by decide +kernel
theorem dX12_triesSaw_17 : decode cX12_triesSaw 17 = .ok (.aload_n 0, 1) := by decide +kernel
theorem dX12_triesSaw_18 : decode cX12_triesSaw 18 = .ok (.getfield 406, 3) := by decide +kernel
theorem dX12_triesSaw_21 : decode cX12_triesSaw 21 = .ok (.if_icmp .gt 19, 3) := by decide +kernel
theorem dX12_triesSaw_24 : decode cX12_triesSaw 24 = .ok (.iload_n 2, 1) := by decide +kernel
theorem dX12_triesSaw_25 : decode cX12_triesSaw 25 = .ok (.aload_n 0, 1) := by decide +kernel
theorem dX12_triesSaw_26 : decode cX12_triesSaw 26 = .ok (.getfield 406, 3) := by decide +kernel
theorem dX12_triesSaw_29 : decode cX12_triesSaw 29 = .ok (.if_icmp .ne 12, 3) := by decide +kernel
theorem dX12_triesSaw_32 : decode cX12_triesSaw 32 = .ok (.iload_n 1, 1) := by decide +kernel
theorem dX12_triesSaw_33 : decode cX12_triesSaw 33 = .ok (.aload_n 0, 1) := by decide +kernel
theorem dX12_triesSaw_34 : decode cX12_triesSaw 34 = .ok (.getfield 403, 3) := by decide +kernel
theorem dX12_triesSaw_37 : decode cX12_triesSaw 37 = .ok (.if_icmp .lt 4, 3) := by decide +kernel
theorem dX12_triesSaw_40 : decode cX12_triesSaw 40 = .ok (.return_, 1) := by decide +kernel
theorem dX12_triesSaw_41 : decode cX12_triesSaw 41 = .ok (.aload_n 0, 1) := by decide +kernel
theorem dX12_triesSaw_42 : decode cX12_triesSaw 42 = .ok (.iload_n 1, 1) := by decide +kernel
theorem dX12_triesSaw_43 : decode cX12_triesSaw 43 = .ok (.putfield 403, 3) := by decide +kernel
theorem dX12_triesSaw_46 : decode cX12_triesSaw 46 = .ok (.aload_n 0, 1) := by decide +kernel
theorem dX12_triesSaw_47 : decode cX12_triesSaw 47 = .ok (.iload_n 2, 1) := by decide +kernel
theorem dX12_triesSaw_48 : decode cX12_triesSaw 48 = .ok (.putfield 406, 3) := by decide +kernel
theorem dX12_triesSaw_51 : decode cX12_triesSaw 51 = .ok (.return_, 1) := by decide +kernel
theorem dX12_sawing_0 : decode cX12_sawing 0 = .ok (.aload_n 0, 1) := by decide +kernel
theorem dX12_sawing_1 : decode cX12_sawing 1 = .ok (.invokevirtual 333, 3) := by decide +kernel
theorem dX12_sawing_4 : decode cX12_sawing 4 = .ok (.aload_n 0, 1) := by decide +kernel
theorem dX12_sawing_5 : decode cX12_sawing 5 = .ok (.getfield 298, 3) := by decide +kernel
theorem dX12_sawing_8 : decode cX12_sawing 8 = .ok (.getfield 177, 3) := by decide +kernel
theorem dX12_sawing_11 : decode cX12_sawing 11 = .ok (.iconst 2, 1) := by decide +kernel
theorem dX12_sawing_12 : decode cX12_sawing 12 = .ok (.idiv, 1) := by decide +kernel
theorem dX12_sawing_13 : decode cX12_sawing 13 = .ok (.istore_n 1, 1) := by decide +kernel
theorem dX12_sawing_14 : decode cX12_sawing 14 = .ok (.aload_n 0, 1) := by decide +kernel
theorem dX12_sawing_15 : decode cX12_sawing 15 = .ok (.iload_n 1, 1) := by decide +kernel
theorem dX12_sawing_16 : decode cX12_sawing 16 = .ok (.ifCond .ne 7, 3) := by decide +kernel
theorem dX12_sawing_19 : decode cX12_sawing 19 = .ok (.iconst 0, 1) := by decide +kernel
theorem dX12_sawing_20 : decode cX12_sawing 20 = .ok (.goto 5, 3) := by decide +kernel
theorem dX12_sawing_23 : decode cX12_sawing 23 = .ok (.bipush (-2), 2) := by decide +kernel
theorem dX12_sawing_25 : decode cX12_sawing 25 = .ok (.putfield 403, 3) := by decide +kernel
theorem dX12_sawing_28 : decode cX12_sawing 28 = .ok (.aload_n 0, 1) := by decide +kernel
theorem dX12_sawing_29 : decode cX12_sawing 29 = .ok (.iconst 0, 1) := by decide +kernel
theorem dX12_sawing_30 : decode cX12_sawing 30 = .ok (.putfield 406, 3) := by decide +kernel
theorem dX12_sawing_33 : decode cX12_sawing 33 = .ok (.iconst 0, 1) := by decide +kernel
theorem dX12_sawing_34 : decode cX12_sawing 34 = .ok (.istore_n 2, 1) := by decide +kernel
theorem dX12_sawing_35 : decode cX12_sawing 35 = .ok (.iload_n 2, 1) := by decide +kernel
theorem dX12_sawing_36 : decode cX12_sawing 36 = .ok (.aload_n 0, 1) := by decide +kernel
theorem dX12_sawing_37 : decode cX12_sawing 37 = .ok (.getfield 21, 3) := by decide +kernel
theorem dX12_sawing_40 : decode cX12_sawing 40 = .ok (.bipush 55, 2) := by decide +kernel
theorem dX12_sawing_42 : decode cX12_sawing 42 = .ok (.iaload, 1) := by decide +kernel
theorem dX12_sawing_43 : decode cX12_sawing 43 = .ok (.if_icmp .ge 83, 3) := by decide +kernel
theorem dX12_sawing_46 : decode cX12_sawing 46 = .ok (.iload_n 1, 1) := by decide +kernel
theorem dX12_sawing_47 : decode cX12_sawing 47 = .ok (.iconst 1, 1) := by decide +kernel
theorem dX12_sawing_48 : decode cX12_sawing 48 = .ok (.if_icmp .ne 15, 3) := by decide +kernel
theorem dX12_sawing_51 : decode cX12_sawing 51 = .ok (.aload_n 0, 1) := by decide +kernel
theorem dX12_sawing_52 : decode cX12_sawing 52 = .ok (.iconst 1, 1) := by decide +kernel
theorem dX12_sawing_53 : decode cX12_sawing 53 = .ok (.iload_n 2, 1) := by decide +kernel
theorem dX12_sawing_54 : decode cX12_sawing 54 = .ok (.ishl, 1) := by decide +kernel
theorem dX12_sawing_55 : decode cX12_sawing 55 = .ok (.aload_n 0, 1) := by decide +kernel
theorem dX12_sawing_56 : decode cX12_sawing 56 = .ok (.iload_n 2, 1) := by decide +kernel
theorem dX12_sawing_57 : decode cX12_sawing 57 = .ok (.invokevirtual 409, 3) := by decide +kernel
theorem dX12_sawing_60 : decode cX12_sawing 60 = .ok (.invokevirtual 412, 3) := by decide +kernel
theorem dX12_sawing_63 : decode cX12_sawing 63 = .ok (.iload_n 2, 1) := by decide +kernel
theorem dX12_sawing_64 : decode cX12_sawing 64 = .ok (.iconst 1, 1) := by decide +kernel
theorem dX12_sawing_65 : decode cX12_sawing 65 = .ok (.iadd, 1) := by decide +kernel
theorem dX12_sawing_66 : decode cX12_sawing 66 = .ok (.istore_n 3, 1) := by decide +kernel
theorem dX12_sawing_67 : decode cX12_sawing 67 = .ok (.iload_n 3, 1) := by decide +kernel
theorem dX12_sawing_68 : decode cX12_sawing 68 = .ok (.aload_n 0, 1) := by decide +kernel
theorem dX12_sawing_69 : decode cX12_sawing 69 = .ok (.getfield 21, 3) := by decide +kernel
theorem dX12_sawing_72 : decode cX12_sawing 72 = .ok (.bipush 55, 2) := by decide +kernel
theorem dX12_sawing_74 : decode cX12_sawing 74 = .ok (.iaload, 1) := by decide +kernel
theorem dX12_sawing_75 : decode cX12_sawing 75 = .ok (.if_icmp .ge 45, 3) := by decide +kernel
theorem dX12_sawing_78 : decode cX12_sawing 78 = .ok (.iload_n 1, 1) := by decide +kernel
theorem dX12_sawing_79 : decode cX12_sawing 79 = .ok (.iconst 2, 1) := by decide +kernel
theorem dX12_sawing_80 : decode cX12_sawing 80 = .ok (.if_icmp .ne 34, 3) := by decide +kernel
theorem dX12_sawing_83 : decode cX12_sawing 83 = .ok (.aload_n 0, 1) := by decide +kernel
theorem dX12_sawing_84 : decode cX12_sawing 84 = .ok (.iload_n 2, 1) := by decide +kernel
theorem dX12_sawing_85 : decode cX12_sawing 85 = .ok (.iload_n 3, 1) := by decide +kernel
theorem dX12_sawing_86 : decode cX12_sawing 86 = .ok (.invokevirtual 363, 3) := by decide +kernel
theorem dX12_sawing_89 : decode cX12_sawing 89 = .ok (.ifCond .ne 25, 3) := by decide +kernel
theorem dX12_sawing_92 : decode cX12_sawing 92 = .ok (.aload_n 0, 1) := by decide +kernel
theorem dX12_sawing_93 : decode cX12_sawing 93 = .ok (.iconst 1, 1) := by decide +kernel
theorem dX12_sawing_94 : decode cX12_sawing 94 = .ok (.iload_n 2, 1) := by decide +kernel
theorem dX12_sawing_95 : decode cX12_sawing 95 = .ok (.ishl, 1) := by decide +kernel
theorem dX12_sawing_96 : decode cX12_sawing 96 = .ok (.iconst 1, 1) := by decide +kernel
theorem dX12_sawing_97 : decode cX12_sawing 97 = .ok (.iload_n 3, 1) := by decide +kernel
theorem dX12_sawing_98 : decode cX12_sawing 98 = .ok (.ishl, 1) := by decide +kernel
theorem dX12_sawing_99 : decode cX12_sawing 99 = .ok (.ior, 1) := by decide +kernel
theorem dX12_sawing_100 : decode cX12_sawing 100 = .ok (.aload_n 0, 1) := by decide +kernel
theorem dX12_sawing_101 : decode cX12_sawing 101 = .ok (.iload_n 2, 1) := by decide +kernel
theorem dX12_sawing_102 : decode cX12_sawing 102 = .ok (.invokevirtual 409, 3) := by decide +kernel
theorem dX12_sawing_105 : decode cX12_sawing 105 = .ok (.aload_n 0, 1) := by decide +kernel
theorem dX12_sawing_106 : decode cX12_sawing 106 = .ok (.iload_n 3, 1) := by decide +kernel
theorem dX12_sawing_107 : decode cX12_sawing 107 = .ok (.invokevirtual 409, 3) := by decide +kernel
theorem dX12_sawing_110 : decode cX12_sawing 110 = .ok (.iadd, 1) := by decide +kernel
theorem dX12_sawing_111 : decode cX12_sawing 111 = .ok (.invokevirtual 412, 3) := by decide +kernel
theorem dX12_sawing_114 : decode cX12_sawing 114 = .ok (.iinc 3 1, 3) := by decide +kernel
theorem dX12_sawing_117 : decode cX12_sawing 117 = .ok (.goto (-50), 3) := by decide +kernel
theorem dX12_sawing_120 : decode cX12_sawing 120 = .ok (.iinc 2 1, 3) := by decide +kernel
theorem dX12_sawing_123 : decode cX12_sawing 123 = .ok (.goto (-88), 3) := by decide +kernel
theorem dX12_sawing_126 : decode cX12_sawing 126 = .ok (.aload_n 0, 1) := by decide +kernel
theorem dX12_sawing_127 : decode cX12_sawing 127 = .ok (.getfield 403, 3) := by decide +kernel
theorem dX12_sawing_130 : decode cX12_sawing 130 = .ok (.bipush (-2), 2) := by decide +kernel
theorem dX12_sawing_132 : decode cX12_sawing 132 = .ok (.if_icmp .ne 8, 3) := by decide +kernel
theorem dX12_sawing_135 : decode cX12_sawing 135 = .ok (.bipush (-2), 2) := by decide +kernel
theorem dX12_sawing_137 : decode cX12_sawing 137 = .ok (.goto 7, 3) := by decide +kernel
theorem dX12_sawing_140 : decode cX12_sawing 140 = .ok (.aload_n 0, 1) := by decide +kernel
theorem dX12_sawing_141 : decode cX12_sawing 141 = .ok (.getfield 406, 3) := by decide +kernel
theorem dX12_sawing_144 : decode cX12_sawing 144 = .ok (.ireturn, 1) := by decide +kernel
theorem dX12_saws_0 : decode cX12_saws 0 = .ok (.aload_n 0, 1) := by decide +kernel
theorem dX12_saws_1 : decode cX12_saws 1 = .ok (.iconst 0, 1) := by decide +kernel
theorem dX12_saws_2 : decode cX12_saws 2 = .ok (.putfield 39, 3) := by decide +kernel
theorem dX12_saws_5 : decode cX12_saws 5 = .ok (.aload_n 0, 1) := by decide +kernel
theorem dX12_saws_6 : decode cX12_saws 6 = .ok (.getfield 298, 3) := by decide +kernel
theorem dX12_saws_9 : decode cX12_saws 9 = .ok (.ifnonnull 11, 3) := by decide +kernel
theorem dX12_saws_12 : decode cX12_saws 12 = .ok (.aload_n 0, 1) := by decide +kernel
theorem dX12_saws_13 : decode cX12_saws 13 = .ok (.iconst 1, 1) := by decide +kernel
theorem dX12_saws_14 : decode cX12_saws 14 = .ok (.invokevirtual 45, 3) := by decide +kernel
theorem dX12_saws_17 : decode cX12_saws 17 = .ok (.goto 11, 3) := by decide +kernel
theorem dX12_saws_20 : decode cX12_saws 20 = .ok (.aload_n 0, 1) := by decide +kernel
theorem dX12_saws_21 : decode cX12_saws 21 = .ok (.aload_n 0, 1) := by decide +kernel
theorem dX12_saws_22 : decode cX12_saws 22 = .ok (.invokevirtual 415, 3) := by decide +kernel
theorem dX12_saws_25 : decode cX12_saws 25 = .ok (.invokevirtual 49, 3) := by decide +kernel
theorem dX12_saws_28 : decode cX12_saws 28 = .ok (.ireturn, 1) := by decide +kernel
theorem dX12_sawsOf_0 : decode cX12_sawsOf 0 = .ok (.aload_n 0, 1) := by decide +kernel
theorem dX12_sawsOf_1 : decode cX12_sawsOf 1 = .ok (.iconst 0, 1) := by decide +kernel
theorem dX12_sawsOf_2 : decode cX12_sawsOf 2 = .ok (.putfield 39, 3) := by decide +kernel
theorem dX12_sawsOf_5 : decode cX12_sawsOf 5 = .ok (.aload_n 0, 1) := by decide +kernel
theorem dX12_sawsOf_6 : decode cX12_sawsOf 6 = .ok (.iload_n 1, 1) := by decide +kernel
theorem dX12_sawsOf_7 : decode cX12_sawsOf 7 = .ok (.invokevirtual 330, 3) := by decide +kernel
theorem dX12_sawsOf_10 : decode cX12_sawsOf 10 = .ok (.ifCond .ne 9, 3) := by decide +kernel
theorem dX12_sawsOf_13 : decode cX12_sawsOf 13 = .ok (.aload_n 0, 1) := by decide +kernel
theorem dX12_sawsOf_14 : decode cX12_sawsOf 14 = .ok (.iconst 1, 1) := by decide +kernel
theorem dX12_sawsOf_15 : decode cX12_sawsOf 15 = .ok (.invokevirtual 45, 3) := by decide +kernel
theorem dX12_sawsOf_18 : decode cX12_sawsOf 18 = .ok (.ireturn, 1) := by decide +kernel
theorem dX12_sawsOf_19 : decode cX12_sawsOf 19 = .ok (.aload_n 0, 1) := by decide +kernel
theorem dX12_sawsOf_20 : decode cX12_sawsOf 20 = .ok (.invokevirtual 415, 3) := by decide +kernel
theorem dX12_sawsOf_23 : decode cX12_sawsOf 23 = .ok (.bipush (-2), 2) := by decide +kernel
theorem dX12_sawsOf_25 : decode cX12_sawsOf 25 = .ok (.if_icmp .ne 10, 3) := by decide +kernel
theorem dX12_sawsOf_28 : decode cX12_sawsOf 28 = .ok (.aload_n 0, 1) := by decide +kernel
theorem dX12_sawsOf_29 : decode cX12_sawsOf 29 = .ok (.bipush (-2), 2) := by decide +kernel
theorem dX12_sawsOf_31 : decode cX12_sawsOf 31 = .ok (.invokevirtual 49, 3) := by decide +kernel
theorem dX12_sawsOf_34 : decode cX12_sawsOf 34 = .ok (.ireturn, 1) := by decide +kernel
theorem dX12_sawsOf_35 : decode cX12_sawsOf 35 = .ok (.aload_n 0, 1) := by decide +kernel
theorem dX12_sawsOf_36 : decode cX12_sawsOf 36 = .ok (.aload_n 0, 1) := by decide +kernel
theorem dX12_sawsOf_37 : decode cX12_sawsOf 37 = .ok (.getfield 403, 3) := by decide +kernel
theorem dX12_sawsOf_40 : decode cX12_sawsOf 40 = .ok (.iload_n 1, 1) := by decide +kernel
theorem dX12_sawsOf_41 : decode cX12_sawsOf 41 = .ok (.invokestatic 237, 3) := by decide +kernel
theorem dX12_sawsOf_44 : decode cX12_sawsOf 44 = .ok (.ifCond .eq 11, 3) := by decide +kernel
theorem dX12_sawsOf_47 : decode cX12_sawsOf 47 = .ok (.aload_n 0, 1) := by decide +kernel
theorem dX12_sawsOf_48 : decode cX12_sawsOf 48 = .ok (.iload_n 1, 1) := by decide +kernel
theorem dX12_sawsOf_49 : decode cX12_sawsOf 49 = .ok (.invokevirtual 409, 3) := by decide +kernel
theorem dX12_sawsOf_52 : decode cX12_sawsOf 52 = .ok (.goto 4, 3) := by decide +kernel
theorem dX12_sawsOf_55 : decode cX12_sawsOf 55 = .ok (.iconst 0, 1) := by decide +kernel
theorem dX12_sawsOf_56 : decode cX12_sawsOf 56 = .ok (.invokevirtual 49, 3) := by decide +kernel
theorem dX12_sawsOf_59 : decode cX12_sawsOf 59 = .ok (.ireturn, 1) := by decide +kernel
theorem dX12_bitOf_0 : decode cX12_bitOf 0 = .ok (.iconst 0, 1) := by decide +kernel
theorem dX12_bitOf_1 : decode cX12_bitOf 1 = .ok (.istore_n 3, 1) := by decide +kernel
theorem dX12_bitOf_2 : decode cX12_bitOf 2 = .ok (.iconst 0, 1) := by decide +kernel
theorem dX12_bitOf_3 : decode cX12_bitOf 3 = .ok (.istore 4, 2) := by decide +kernel
theorem dX12_bitOf_5 : decode cX12_bitOf 5 = .ok (.iload 4, 2) := by decide +kernel
theorem dX12_bitOf_7 : decode cX12_bitOf 7 = .ok (.aload_n 0, 1) := by decide +kernel
theorem dX12_bitOf_8 : decode cX12_bitOf 8 = .ok (.getfield 298, 3) := by decide +kernel
theorem dX12_bitOf_11 : decode cX12_bitOf 11 = .ok (.getfield 177, 3) := by decide +kernel
theorem dX12_bitOf_14 : decode cX12_bitOf 14 = .ok (.if_icmp .ge 59, 3) := by decide +kernel
theorem dX12_bitOf_17 : decode cX12_bitOf 17 = .ok (.iload 4, 2) := by decide +kernel
theorem dX12_bitOf_19 : decode cX12_bitOf 19 = .ok (.iconst 1, 1) := by decide +kernel
theorem dX12_bitOf_20 : decode cX12_bitOf 20 = .ok (.iadd, 1) := by decide +kernel
theorem dX12_bitOf_21 : decode cX12_bitOf 21 = .ok (.istore 5, 2) := by decide +kernel
theorem dX12_bitOf_23 : decode cX12_bitOf 23 = .ok (.iload 5, 2) := by decide +kernel
theorem dX12_bitOf_25 : decode cX12_bitOf 25 = .ok (.aload_n 0, 1) := by decide +kernel
theorem dX12_bitOf_26 : decode cX12_bitOf 26 = .ok (.getfield 298, 3) := by decide +kernel
theorem dX12_bitOf_29 : decode cX12_bitOf 29 = .ok (.getfield 177, 3) := by decide +kernel
theorem dX12_bitOf_32 : decode cX12_bitOf 32 = .ok (.if_icmp .ge 35, 3) := by decide +kernel
theorem dX12_bitOf_35 : decode cX12_bitOf 35 = .ok (.iload_n 3, 1) := by decide +kernel
theorem dX12_bitOf_36 : decode cX12_bitOf 36 = .ok (.iload 4, 2) := by decide +kernel
theorem dX12_bitOf_38 : decode cX12_bitOf 38 = .ok (.iload_n 1, 1) := by decide +kernel
theorem dX12_bitOf_39 : decode cX12_bitOf 39 = .ok (.if_icmp .lt 15, 3) := by decide +kernel
theorem dX12_bitOf_42 : decode cX12_bitOf 42 = .ok (.iload 4, 2) := by decide +kernel
theorem dX12_bitOf_44 : decode cX12_bitOf 44 = .ok (.iload_n 1, 1) := by decide +kernel
theorem dX12_bitOf_45 : decode cX12_bitOf 45 = .ok (.if_icmp .ne 13, 3) := by decide +kernel
theorem dX12_bitOf_48 : decode cX12_bitOf 48 = .ok (.iload 5, 2) := by decide +kernel
theorem dX12_bitOf_50 : decode cX12_bitOf 50 = .ok (.iload_n 2, 1) := by decide +kernel
theorem dX12_bitOf_51 : decode cX12_bitOf 51 = .ok (.if_icmp .ge 7, 3) := by decide +kernel
theorem dX12_bitOf_54 : decode cX12_bitOf 54 = .ok (.iconst 1, 1) := by decide +kernel
theorem dX12_bitOf_55 : decode cX12_bitOf 55 = .ok (.goto 4, 3) := by decide +kernel
theorem dX12_bitOf_58 : decode cX12_bitOf 58 = .ok (.iconst 0, 1) := by decide +kernel
theorem dX12_bitOf_59 : decode cX12_bitOf 59 = .ok (.iadd, 1) := by decide +kernel
theorem dX12_bitOf_60 : decode cX12_bitOf 60 = .ok (.istore_n 3, 1) := by decide +kernel
theorem dX12_bitOf_61 : decode cX12_bitOf 61 = .ok (.iinc 5 1, 3) := by decide +kernel
theorem dX12_bitOf_64 : decode cX12_bitOf 64 = .ok (.goto (-41), 3) := by decide +kernel
theorem dX12_bitOf_67 : decode cX12_bitOf 67 = .ok (.iinc 4 1, 3) := by decide +kernel
theorem dX12_bitOf_70 : decode cX12_bitOf 70 = .ok (.goto (-65), 3) := by decide +kernel
theorem dX12_bitOf_73 : decode cX12_bitOf 73 = .ok (.iload_n 3, 1) := by decide +kernel
theorem dX12_bitOf_74 : decode cX12_bitOf 74 = .ok (.ireturn, 1) := by decide +kernel
theorem dX12_fedMeeting_0 : decode cX12_fedMeeting 0 = .ok (.aload_n 0, 1) := by decide +kernel
theorem dX12_fedMeeting_1 : decode cX12_fedMeeting 1 = .ok (.invokevirtual 333, 3) := by decide +kernel
theorem dX12_fedMeeting_4 : decode cX12_fedMeeting 4 = .ok (.iconst 0, 1) := by decide +kernel
theorem dX12_fedMeeting_5 : decode cX12_fedMeeting 5 = .ok (.istore_n 3, 1) := by decide +kernel
theorem dX12_fedMeeting_6 : decode cX12_fedMeeting 6 = .ok (.iload_n 3, 1) := by decide +kernel
theorem dX12_fedMeeting_7 : decode cX12_fedMeeting 7 = .ok (.aload_n 0, 1) := by decide +kernel
theorem dX12_fedMeeting_8 : decode cX12_fedMeeting 8 = .ok (.getfield 298, 3) := by decide +kernel
theorem dX12_fedMeeting_11 : decode cX12_fedMeeting 11 = .ok (.getfield 177, 3) := by decide +kernel
theorem dX12_fedMeeting_14 : decode cX12_fedMeeting 14 = .ok (.if_icmp .ge 70, 3) := by decide +kernel
theorem dX12_fedMeeting_17 : decode cX12_fedMeeting 17 = .ok (.iload_n 3, 1) := by decide +kernel
theorem dX12_fedMeeting_18 : decode cX12_fedMeeting 18 = .ok (.iconst 1, 1) := by decide +kernel
theorem dX12_fedMeeting_19 : decode cX12_fedMeeting 19 = .ok (.iadd, 1) := by decide +kernel
theorem dX12_fedMeeting_20 : decode cX12_fedMeeting 20 = .ok (.istore 4, 2) := by decide +kernel
theorem dX12_fedMeeting_22 : decode cX12_fedMeeting 22 = .ok (.iload 4, 2) := by decide +kernel
theorem dX12_fedMeeting_24 : decode cX12_fedMeeting 24 = .ok (.aload_n 0, 1) := by decide +kernel
theorem dX12_fedMeeting_25 : decode cX12_fedMeeting 25 = .ok (.getfield 298, 3) := by decide +kernel
theorem dX12_fedMeeting_28 : decode cX12_fedMeeting 28 = .ok (.getfield 177, 3) := by decide +kernel
theorem dX12_fedMeeting_31 : decode cX12_fedMeeting 31 = .ok (.if_icmp .ge 47, 3) := by decide +kernel
theorem dX12_fedMeeting_34 : decode cX12_fedMeeting 34 = .ok (.iload_n 1, 1) := by decide +kernel
theorem dX12_fedMeeting_35 : decode cX12_fedMeeting 35 = .ok (.aload_n 0, 1) := by decide +kernel
theorem dX12_fedMeeting_36 : decode cX12_fedMeeting 36 = .ok (.iload_n 3, 1) := by decide +kernel
theorem dX12_fedMeeting_37 : decode cX12_fedMeeting 37 = .ok (.iload 4, 2) := by decide +kernel
theorem dX12_fedMeeting_39 : decode cX12_fedMeeting 39 = .ok (.invokevirtual 418, 3) := by decide +kernel
theorem dX12_fedMeeting_42 : decode cX12_fedMeeting 42 = .ok (.invokestatic 237, 3) := by decide +kernel
theorem dX12_fedMeeting_45 : decode cX12_fedMeeting 45 = .ok (.ifCond .ne 6, 3) := by decide +kernel
theorem dX12_fedMeeting_48 : decode cX12_fedMeeting 48 = .ok (.goto 24, 3) := by decide +kernel
theorem dX12_fedMeeting_51 : decode cX12_fedMeeting 51 = .ok (.aload_n 0, 1) := by decide +kernel
theorem dX12_fedMeeting_52 : decode cX12_fedMeeting 52 = .ok (.iload_n 3, 1) := by decide +kernel
theorem dX12_fedMeeting_53 : decode cX12_fedMeeting 53 = .ok (.iload 4, 2) := by decide +kernel
theorem dX12_fedMeeting_55 : decode cX12_fedMeeting 55 = .ok (.invokevirtual 345, 3) := by decide +kernel
theorem dX12_fedMeeting_58 : decode cX12_fedMeeting 58 = .ok (.bipush (-2), 2) := by decide +kernel
theorem dX12_fedMeeting_60 : decode cX12_fedMeeting 60 = .ok (.if_icmp .eq 5, 3) := by decide +kernel
theorem dX12_fedMeeting_63 : decode cX12_fedMeeting 63 = .ok (.iconst (-1), 1) := by decide +kernel
theorem dX12_fedMeeting_64 : decode cX12_fedMeeting 64 = .ok (.ireturn, 1) := by decide +kernel
theorem dX12_fedMeeting_65 : decode cX12_fedMeeting 65 = .ok (.aload_n 0, 1) := by decide +kernel
theorem dX12_fedMeeting_66 : decode cX12_fedMeeting 66 = .ok (.iload_n 3, 1) := by decide +kernel
theorem dX12_fedMeeting_67 : decode cX12_fedMeeting 67 = .ok (.iload 4, 2) := by decide +kernel
theorem dX12_fedMeeting_69 : decode cX12_fedMeeting 69 = .ok (.invokevirtual 421, 3) := by decide +kernel
theorem dX12_fedMeeting_72 : decode cX12_fedMeeting 72 = .ok (.iinc 4 1, 3) := by decide +kernel
theorem dX12_fedMeeting_75 : decode cX12_fedMeeting 75 = .ok (.goto (-53), 3) := by decide +kernel
theorem dX12_fedMeeting_78 : decode cX12_fedMeeting 78 = .ok (.iinc 3 1, 3) := by decide +kernel
theorem dX12_fedMeeting_81 : decode cX12_fedMeeting 81 = .ok (.goto (-75), 3) := by decide +kernel
theorem dX12_fedMeeting_84 : decode cX12_fedMeeting 84 = .ok (.iconst 0, 1) := by decide +kernel
theorem dX12_fedMeeting_85 : decode cX12_fedMeeting 85 = .ok (.istore_n 3, 1) := by decide +kernel
theorem dX12_fedMeeting_86 : decode cX12_fedMeeting 86 = .ok (.iload_n 3, 1) := by decide +kernel
theorem dX12_fedMeeting_87 : decode cX12_fedMeeting 87 = .ok (.aload_n 0, 1) := by decide +kernel
theorem dX12_fedMeeting_88 : decode cX12_fedMeeting 88 = .ok (.getfield 21, 3) := by decide +kernel
theorem dX12_fedMeeting_91 : decode cX12_fedMeeting 91 = .ok (.bipush 55, 2) := by decide +kernel
theorem dX12_fedMeeting_93 : decode cX12_fedMeeting 93 = .ok (.iaload, 1) := by decide +kernel
theorem dX12_fedMeeting_94 : decode cX12_fedMeeting 94 = .ok (.if_icmp .ge 22, 3) := by decide +kernel
theorem dX12_fedMeeting_97 : decode cX12_fedMeeting 97 = .ok (.aload_n 0, 1) := by decide +kernel
theorem dX12_fedMeeting_98 : decode cX12_fedMeeting 98 = .ok (.getfield 21, 3) := by decide +kernel
theorem dX12_fedMeeting_101 : decode cX12_fedMeeting 101 = .ok (.bipush 25, 2) := by decide +kernel
theorem dX12_fedMeeting_103 : decode cX12_fedMeeting 103 = .ok (.iload_n 3, 1) := by decide +kernel
theorem dX12_fedMeeting_104 : decode cX12_fedMeeting 104 = .ok (.iadd, 1) := by decide +kernel
theorem dX12_fedMeeting_105 : decode cX12_fedMeeting 105 = .ok (.dup2, 1) := by decide +kernel
theorem dX12_fedMeeting_106 : decode cX12_fedMeeting 106 = .ok (.iaload, 1) := by decide +kernel
theorem dX12_fedMeeting_107 : decode cX12_fedMeeting 107 = .ok (.iload_n 2, 1) := by decide +kernel
theorem dX12_fedMeeting_108 : decode cX12_fedMeeting 108 = .ok (.iadd, 1) := by decide +kernel
theorem dX12_fedMeeting_109 : decode cX12_fedMeeting 109 = .ok (.iastore, 1) := by decide +kernel
theorem dX12_fedMeeting_110 : decode cX12_fedMeeting 110 = .ok (.iinc 3 1, 3) := by decide +kernel
theorem dX12_fedMeeting_113 : decode cX12_fedMeeting 113 = .ok (.goto (-27), 3) := by decide +kernel
theorem dX12_fedMeeting_116 : decode cX12_fedMeeting 116 = .ok (.aload_n 0, 1) := by decide +kernel
theorem dX12_fedMeeting_117 : decode cX12_fedMeeting 117 = .ok (.invokevirtual 366, 3) := by decide +kernel
theorem dX12_fedMeeting_120 : decode cX12_fedMeeting 120 = .ok (.ireturn, 1) := by decide +kernel
theorem dX12_knows_0 : decode cX12_knows 0 = .ok (.aload_n 0, 1) := by decide +kernel
theorem dX12_knows_1 : decode cX12_knows 1 = .ok (.getfield 21, 3) := by decide +kernel
theorem dX12_knows_4 : decode cX12_knows 4 = .ok (.bipush 55, 2) := by decide +kernel
theorem dX12_knows_6 : decode cX12_knows 6 = .ok (.iaload, 1) := by decide +kernel
theorem dX12_knows_7 : decode cX12_knows 7 = .ok (.istore_n 3, 1) := by decide +kernel
theorem dX12_knows_8 : decode cX12_knows 8 = .ok (.aload_n 0, 1) := by decide +kernel
theorem dX12_knows_9 : decode cX12_knows 9 = .ok (.getfield 21, 3) := by decide +kernel
theorem dX12_knows_12 : decode cX12_knows 12 = .ok (.iconst 5, 1) := by decide +kernel
theorem dX12_knows_13 : decode cX12_knows 13 = .ok (.iload_n 3, 1) := by decide +kernel
theorem dX12_knows_14 : decode cX12_knows 14 = .ok (.iadd, 1) := by decide +kernel
theorem dX12_knows_15 : decode cX12_knows 15 = .ok (.iload_n 1, 1) := by decide +kernel
theorem dX12_knows_16 : decode cX12_knows 16 = .ok (.iastore, 1) := by decide +kernel
theorem dX12_knows_17 : decode cX12_knows 17 = .ok (.aload_n 0, 1) := by decide +kernel
theorem dX12_knows_18 : decode cX12_knows 18 = .ok (.getfield 21, 3) := by decide +kernel
theorem dX12_knows_21 : decode cX12_knows 21 = .ok (.bipush 15, 2) := by decide +kernel
theorem dX12_knows_23 : decode cX12_knows 23 = .ok (.iload_n 3, 1) := by decide +kernel
theorem dX12_knows_24 : decode cX12_knows 24 = .ok (.iadd, 1) := by decide +kernel
theorem dX12_knows_25 : decode cX12_knows 25 = .ok (.iload_n 2, 1) := by decide +kernel
theorem dX12_knows_26 : decode cX12_knows 26 = .ok (.iastore, 1) := by decide +kernel
theorem dX12_knows_27 : decode cX12_knows 27 = .ok (.aload_n 0, 1) := by decide +kernel
theorem dX12_knows_28 : decode cX12_knows 28 = .ok (.getfield 21, 3) := by decide +kernel
theorem dX12_knows_31 : decode cX12_knows 31 = .ok (.bipush 25, 2) := by decide +kernel
theorem dX12_knows_33 : decode cX12_knows 33 = .ok (.iload_n 3, 1) := by decide +kernel
theorem dX12_knows_34 : decode cX12_knows 34 = .ok (.iadd, 1) := by decide +kernel
theorem dX12_knows_35 : decode cX12_knows 35 = .ok (.iconst 0, 1) := by decide +kernel
theorem dX12_knows_36 : decode cX12_knows 36 = .ok (.iastore, 1) := by decide +kernel
theorem dX12_knows_37 : decode cX12_knows 37 = .ok (.aload_n 0, 1) := by decide +kernel
theorem dX12_knows_38 : decode cX12_knows 38 = .ok (.getfield 21, 3) := by decide +kernel
theorem dX12_knows_41 : decode cX12_knows 41 = .ok (.bipush 35, 2) := by decide +kernel
theorem dX12_knows_43 : decode cX12_knows 43 = .ok (.iload_n 3, 1) := by decide +kernel
theorem dX12_knows_44 : decode cX12_knows 44 = .ok (.iadd, 1) := by decide +kernel
theorem dX12_knows_45 : decode cX12_knows 45 = .ok (.iconst 0, 1) := by decide +kernel
theorem dX12_knows_46 : decode cX12_knows 46 = .ok (.iastore, 1) := by decide +kernel
theorem dX12_knows_47 : decode cX12_knows 47 = .ok (.aload_n 0, 1) := by decide +kernel
theorem dX12_knows_48 : decode cX12_knows 48 = .ok (.getfield 21, 3) := by decide +kernel
theorem dX12_knows_51 : decode cX12_knows 51 = .ok (.bipush 45, 2) := by decide +kernel
theorem dX12_knows_53 : decode cX12_knows 53 = .ok (.iload_n 3, 1) := by decide +kernel
theorem dX12_knows_54 : decode cX12_knows 54 = .ok (.iadd, 1) := by decide +kernel
theorem dX12_knows_55 : decode cX12_knows 55 = .ok (.iconst 0, 1) := by decide +kernel
theorem dX12_knows_56 : decode cX12_knows 56 = .ok (.iastore, 1) := by decide +kernel
theorem dX12_knows_57 : decode cX12_knows 57 = .ok (.aload_n 0, 1) := by decide +kernel
theorem dX12_knows_58 : decode cX12_knows 58 = .ok (.getfield 21, 3) := by decide +kernel
theorem dX12_knows_61 : decode cX12_knows 61 = .ok (.bipush 55, 2) := by decide +kernel
theorem dX12_knows_63 : decode cX12_knows 63 = .ok (.dup2, 1) := by decide +kernel
theorem dX12_knows_64 : decode cX12_knows 64 = .ok (.iaload, 1) := by decide +kernel
theorem dX12_knows_65 : decode cX12_knows 65 = .ok (.iconst 1, 1) := by decide +kernel
theorem dX12_knows_66 : decode cX12_knows 66 = .ok (.iadd, 1) := by decide +kernel
theorem dX12_knows_67 : decode cX12_knows 67 = .ok (.iastore, 1) := by decide +kernel
theorem dX12_knows_68 : decode cX12_knows 68 = .ok (.return_, 1) := by decide +kernel
theorem dX12_meeting_0 : decode cX12_meeting 0 = .ok (.bipush (-2), 2) := by decide +kernel
theorem dX12_meeting_2 : decode cX12_meeting 2 = .ok (.istore_n 2, 1) := by decide +kernel
theorem dX12_meeting_3 : decode cX12_meeting 3 = .ok (.aload_n 0, 1) := by decide +kernel
theorem dX12_meeting_4 : decode cX12_meeting 4 = .ok (.getfield 298, 3) := by decide +kernel
theorem dX12_meeting_7 : decode cX12_meeting 7 = .ok (.getfield 177, 3) := by decide +kernel
theorem dX12_meeting_10 : decode cX12_meeting 10 = .ok (.aload_n 0, 1) := by decide +kernel
theorem dX12_meeting_11 : decode cX12_meeting 11 = .ok (.getfield 298, 3) := by decide +kernel
theorem dX12_meeting_14 : decode cX12_meeting 14 = .ok (.getfield 177, 3) := by decide +kernel
theorem dX12_meeting_17 : decode cX12_meeting 17 = .ok (.iconst 1, 1) := by decide +kernel
theorem dX12_meeting_18 : decode cX12_meeting 18 = .ok (.isub, 1) := by decide +kernel
theorem dX12_meeting_19 : decode cX12_meeting 19 = .ok (.imul, 1) := by decide +kernel
theorem dX12_meeting_20 : decode cX12_meeting 20 = .ok (.iconst 2, 1) := by decide +kernel
theorem dX12_meeting_21 : decode cX12_meeting 21 = .ok (.idiv, 1) := by decide +kernel
theorem dX12_meeting_22 : decode cX12_meeting 22 = .ok (.istore_n 3, 1) := by decide +kernel
theorem dX12_meeting_23 : decode cX12_meeting 23 = .ok (.iconst 0, 1) := by decide +kernel
theorem dX12_meeting_24 : decode cX12_meeting 24 = .ok (.istore 4, 2) := by decide +kernel
theorem dX12_meeting_26 : decode cX12_meeting 26 = .ok (.iload 4, 2) := by decide +kernel
theorem dX12_meeting_28 : decode cX12_meeting 28 = .ok (.iconst 1, 1) := by decide +kernel
theorem dX12_meeting_29 : decode cX12_meeting 29 = .ok (.iload_n 3, 1) := by decide +kernel
theorem dX12_meeting_30 : decode cX12_meeting 30 = .ok (.ishl, 1) := by decide +kernel
theorem dX12_meeting_31 : decode cX12_meeting 31 = .ok (.if_icmp .ge 52, 3) := by decide +kernel
theorem dX12_meeting_34 : decode cX12_meeting 34 = .ok (.iload_n 2, 1) := by decide +kernel
theorem dX12_meeting_35 : decode cX12_meeting 35 = .ok (.bipush (-2), 2) := by decide +kernel
theorem dX12_meeting_37 : decode cX12_meeting 37 = .ok (.if_icmp .eq 18, 3) := by decide +kernel
theorem dX12_meeting_40 : decode cX12_meeting 40 = .ok (.iload 4, 2) := by decide +kernel
theorem dX12_meeting_42 : decode cX12_meeting 42 = .ok (.invokestatic 234, 3) := by decide +kernel
theorem dX12_meeting_45 : decode cX12_meeting 45 = .ok (.iload_n 2, 1) := by decide +kernel
theorem dX12_meeting_46 : decode cX12_meeting 46 = .ok (.invokestatic 234, 3) := by decide +kernel
theorem dX12_meeting_49 : decode cX12_meeting 49 = .ok (.if_icmp .lt 6, 3) := by decide +kernel
theorem dX12_meeting_52 : decode cX12_meeting 52 = .ok (.goto 25, 3) := by decide +kernel
theorem dX12_meeting_55 : decode cX12_meeting 55 = .ok (.aload_n 0, 1) := by decide +kernel
theorem dX12_meeting_56 : decode cX12_meeting 56 = .ok (.iload 4, 2) := by decide +kernel
theorem dX12_meeting_58 : decode cX12_meeting 58 = .ok (.iload_n 1, 1) := by decide +kernel
theorem dX12_meeting_59 : decode cX12_meeting 59 = .ok (.invokevirtual 424, 3) := by decide +kernel
theorem dX12_meeting_62 : decode cX12_meeting 62 = .ok (.aload_n 0, 1) := by decide +kernel
theorem dX12_meeting_63 : decode cX12_meeting 63 = .ok (.getfield 298, 3) := by decide +kernel
theorem dX12_meeting_66 : decode cX12_meeting 66 = .ok (.getfield 177, 3) := by decide +kernel
theorem dX12_meeting_69 : decode cX12_meeting 69 = .ok (.iconst 1, 1) := by decide +kernel
theorem dX12_meeting_70 : decode cX12_meeting 70 = .ok (.isub, 1) := by decide +kernel
theorem dX12_meeting_71 : decode cX12_meeting 71 = .ok (.if_icmp .lt 6, 3) := by decide +kernel
theorem dX12_meeting_74 : decode cX12_meeting 74 = .ok (.iload 4, 2) := by decide +kernel
theorem dX12_meeting_76 : decode cX12_meeting 76 = .ok (.istore_n 2, 1) := by decide +kernel
theorem dX12_meeting_77 : decode cX12_meeting 77 = .ok (.iinc 4 1, 3) := by decide +kernel
theorem dX12_meeting_80 : decode cX12_meeting 80 = .ok (.goto (-54), 3) := by decide +kernel
theorem dX12_meeting_83 : decode cX12_meeting 83 = .ok (.iload_n 2, 1) := by decide +kernel
theorem dX12_meeting_84 : decode cX12_meeting 84 = .ok (.ireturn, 1) := by decide +kernel
theorem dX12_meet_0 : decode cX12_meet 0 = .ok (.aload_n 0, 1) := by decide +kernel
theorem dX12_meet_1 : decode cX12_meet 1 = .ok (.iconst 0, 1) := by decide +kernel
theorem dX12_meet_2 : decode cX12_meet 2 = .ok (.putfield 39, 3) := by decide +kernel
theorem dX12_meet_5 : decode cX12_meet 5 = .ok (.aload_n 0, 1) := by decide +kernel
theorem dX12_meet_6 : decode cX12_meet 6 = .ok (.aload_n 0, 1) := by decide +kernel
theorem dX12_meet_7 : decode cX12_meet 7 = .ok (.getfield 298, 3) := by decide +kernel
theorem dX12_meet_10 : decode cX12_meet 10 = .ok (.ifnull 7, 3) := by decide +kernel
theorem dX12_meet_13 : decode cX12_meet 13 = .ok (.iconst 1, 1) := by decide +kernel
theorem dX12_meet_14 : decode cX12_meet 14 = .ok (.goto 4, 3) := by decide +kernel
theorem dX12_meet_17 : decode cX12_meet 17 = .ok (.iconst 0, 1) := by decide +kernel
theorem dX12_meet_18 : decode cX12_meet 18 = .ok (.iload_n 1, 1) := by decide +kernel
theorem dX12_meet_19 : decode cX12_meet 19 = .ok (.invokevirtual 372, 3) := by decide +kernel
theorem dX12_meet_22 : decode cX12_meet 22 = .ok (.istore_n 2, 1) := by decide +kernel
theorem dX12_meet_23 : decode cX12_meet 23 = .ok (.iload_n 2, 1) := by decide +kernel
theorem dX12_meet_24 : decode cX12_meet 24 = .ok (.ifCond .le 9, 3) := by decide +kernel
theorem dX12_meet_27 : decode cX12_meet 27 = .ok (.aload_n 0, 1) := by decide +kernel
theorem dX12_meet_28 : decode cX12_meet 28 = .ok (.iload_n 2, 1) := by decide +kernel
theorem dX12_meet_29 : decode cX12_meet 29 = .ok (.invokevirtual 45, 3) := by decide +kernel
theorem dX12_meet_32 : decode cX12_meet 32 = .ok (.ireturn, 1) := by decide +kernel
theorem dX12_meet_33 : decode cX12_meet 33 = .ok (.aload_n 0, 1) := by decide +kernel
theorem dX12_meet_34 : decode cX12_meet 34 = .ok (.iload_n 1, 1) := by decide +kernel
theorem dX12_meet_35 : decode cX12_meet 35 = .ok (.invokevirtual 427, 3) := by decide +kernel
theorem dX12_meet_38 : decode cX12_meet 38 = .ok (.istore_n 3, 1) := by decide +kernel
theorem dX12_meet_39 : decode cX12_meet 39 = .ok (.aload_n 0, 1) := by decide +kernel
theorem dX12_meet_40 : decode cX12_meet 40 = .ok (.iload_n 3, 1) := by decide +kernel
theorem dX12_meet_41 : decode cX12_meet 41 = .ok (.bipush (-2), 2) := by decide +kernel
theorem dX12_meet_43 : decode cX12_meet 43 = .ok (.if_icmp .ne 8, 3) := by decide +kernel
theorem dX12_meet_46 : decode cX12_meet 46 = .ok (.bipush (-2), 2) := by decide +kernel
theorem dX12_meet_48 : decode cX12_meet 48 = .ok (.goto 7, 3) := by decide +kernel
theorem dX12_meet_51 : decode cX12_meet 51 = .ok (.iload_n 3, 1) := by decide +kernel
theorem dX12_meet_52 : decode cX12_meet 52 = .ok (.invokestatic 234, 3) := by decide +kernel
theorem dX12_meet_55 : decode cX12_meet 55 = .ok (.invokevirtual 49, 3) := by decide +kernel
theorem dX12_meet_58 : decode cX12_meet 58 = .ok (.ireturn, 1) := by decide +kernel
theorem dX12_meetAt_0 : decode cX12_meetAt 0 = .ok (.aload_n 0, 1) := by decide +kernel
theorem dX12_meetAt_1 : decode cX12_meetAt 1 = .ok (.iconst 0, 1) := by decide +kernel
theorem dX12_meetAt_2 : decode cX12_meetAt 2 = .ok (.putfield 39, 3) := by decide +kernel
theorem dX12_meetAt_5 : decode cX12_meetAt 5 = .ok (.aload_n 0, 1) := by decide +kernel
theorem dX12_meetAt_6 : decode cX12_meetAt 6 = .ok (.aload_n 0, 1) := by decide +kernel
theorem dX12_meetAt_7 : decode cX12_meetAt 7 = .ok (.getfield 298, 3) := by decide +kernel
theorem dX12_meetAt_10 : decode cX12_meetAt 10 = .ok (.ifnull 7, 3) := by decide +kernel
theorem dX12_meetAt_13 : decode cX12_meetAt 13 = .ok (.iconst 1, 1) := by decide +kernel
theorem dX12_meetAt_14 : decode cX12_meetAt 14 = .ok (.goto 4, 3) := by decide +kernel
theorem dX12_meetAt_17 : decode cX12_meetAt 17 = .ok (.iconst 0, 1) := by decide +kernel
theorem dX12_meetAt_18 : decode cX12_meetAt 18 = .ok (.iload_n 1, 1) := by decide +kernel
theorem dX12_meetAt_19 : decode cX12_meetAt 19 = .ok (.invokevirtual 372, 3) := by decide +kernel
theorem dX12_meetAt_22 : decode cX12_meetAt 22 = .ok (.istore_n 2, 1) := by decide +kernel
theorem dX12_meetAt_23 : decode cX12_meetAt 23 = .ok (.iload_n 2, 1) := by decide +kernel
theorem dX12_meetAt_24 : decode cX12_meetAt 24 = .ok (.ifCond .le 11, 3) := by decide +kernel
theorem dX12_meetAt_27 : decode cX12_meetAt 27 = .ok (.aload_n 0, 1) := by decide +kernel
theorem dX12_meetAt_28 : decode cX12_meetAt 28 = .ok (.iload_n 2, 1) := by decide +kernel
theorem dX12_meetAt_29 : decode cX12_meetAt 29 = .ok (.invokevirtual 45, 3) := by decide +kernel
theorem dX12_meetAt_32 : decode cX12_meetAt 32 = .ok (.goto 12, 3) := by decide +kernel
theorem dX12_meetAt_35 : decode cX12_meetAt 35 = .ok (.aload_n 0, 1) := by decide +kernel
theorem dX12_meetAt_36 : decode cX12_meetAt 36 = .ok (.aload_n 0, 1) := by decide +kernel
theorem dX12_meetAt_37 : decode cX12_meetAt 37 = .ok (.iload_n 1, 1) := by decide +kernel
theorem dX12_meetAt_38 : decode cX12_meetAt 38 = .ok (.invokevirtual 427, 3) := by decide +kernel
theorem dX12_meetAt_41 : decode cX12_meetAt 41 = .ok (.invokevirtual 49, 3) := by decide +kernel
theorem dX12_meetAt_44 : decode cX12_meetAt 44 = .ok (.ireturn, 1) := by decide +kernel
theorem dX12_isRather_0 : decode cX12_isRather 0 = .ok (.aload_n 0, 1) := by decide +kernel
theorem dX12_isRather_1 : decode cX12_isRather 1 = .ok (.iload_n 1, 1) := by decide +kernel
theorem dX12_isRather_2 : decode cX12_isRather 2 = .ok (.iload_n 2, 1) := by decide +kernel
theorem dX12_isRather_3 : decode cX12_isRather 3 = .ok (.invokevirtual 369, 3) := by decide +kernel
theorem dX12_isRather_6 : decode cX12_isRather 6 = .ok (.istore 4, 2) := by decide +kernel
theorem dX12_isRather_8 : decode cX12_isRather 8 = .ok (.iload 4, 2) := by decide +kernel
theorem dX12_isRather_10 : decode cX12_isRather 10 = .ok (.bipush (-2), 2) := by decide +kernel
theorem dX12_isRather_12 : decode cX12_isRather 12 = .ok (.if_icmp .ne 5, 3) := by decide +kernel
theorem dX12_isRather_15 : decode cX12_isRather 15 = .ok (.iconst 1, 1) := by decide +kernel
theorem dX12_isRather_16 : decode cX12_isRather 16 = .ok (.ireturn, 1) := by decide +kernel
theorem dX12_isRather_17 : decode cX12_isRather 17 = .ok (.aload_n 0, 1) := by decide +kernel
theorem dX12_isRather_18 : decode cX12_isRather 18 = .ok (.aload_n 0, 1) := by decide +kernel
theorem dX12_isRather_19 : decode cX12_isRather 19 = .ok (.iload_n 2, 1) := by decide +kernel
theorem dX12_isRather_20 : decode cX12_isRather 20 = .ok (.iload_n 3, 1) := by decide +kernel
theorem dX12_isRather_21 : decode cX12_isRather 21 = .ok (.invokevirtual 345, 3) := by decide +kernel
theorem dX12_isRather_24 : decode cX12_isRather 24 = .ok (.invokevirtual 321, 3) := by decide +kernel
theorem dX12_isRather_27 : decode cX12_isRather 27 = .ok (.aload_n 0, 1) := by decide +kernel
theorem dX12_isRather_28 : decode cX12_isRather 28 = .ok (.aload_n 0, 1) := by decide +kernel
theorem dX12_isRather_29 : decode cX12_isRather 29 = .ok (.iload_n 2, 1) := by decide +kernel
theorem dX12_isRather_30 : decode cX12_isRather 30 = .ok (.iload 4, 2) := by decide +kernel
theorem dX12_isRather_32 : decode cX12_isRather 32 = .ok (.invokevirtual 345, 3) := by decide +kernel
theorem dX12_isRather_35 : decode cX12_isRather 35 = .ok (.invokevirtual 321, 3) := by decide +kernel
theorem dX12_isRather_38 : decode cX12_isRather 38 = .ok (.isub, 1) := by decide +kernel
theorem dX12_isRather_39 : decode cX12_isRather 39 = .ok (.istore 5, 2) := by decide +kernel
theorem dX12_isRather_41 : decode cX12_isRather 41 = .ok (.iload 5, 2) := by decide +kernel
theorem dX12_isRather_43 : decode cX12_isRather 43 = .ok (.ifCond .gt 14, 3) := by decide +kernel
theorem dX12_isRather_46 : decode cX12_isRather 46 = .ok (.iload 5, 2) := by decide +kernel
theorem dX12_isRather_48 : decode cX12_isRather 48 = .ok (.ifCond .ne 13, 3) := by decide +kernel
theorem dX12_isRather_51 : decode cX12_isRather 51 = .ok (.iload_n 3, 1) := by decide +kernel
theorem dX12_isRather_52 : decode cX12_isRather 52 = .ok (.iload 4, 2) := by decide +kernel
theorem dX12_isRather_54 : decode cX12_isRather 54 = .ok (.if_icmp .ge 7, 3) := by decide +kernel
theorem dX12_isRather_57 : decode cX12_isRather 57 = .ok (.iconst 1, 1) := by decide +kernel
theorem dX12_isRather_58 : decode cX12_isRather 58 = .ok (.goto 4, 3) := by decide +kernel
theorem dX12_isRather_61 : decode cX12_isRather 61 = .ok (.iconst 0, 1) := by decide +kernel
theorem dX12_isRather_62 : decode cX12_isRather 62 = .ok (.ireturn, 1) := by decide +kernel
theorem dX12_leaving_0 : decode cX12_leaving 0 = .ok (.iconst 0, 1) := by decide +kernel
theorem dX12_leaving_1 : decode cX12_leaving 1 = .ok (.istore_n 2, 1) := by decide +kernel
theorem dX12_leaving_2 : decode cX12_leaving 2 = .ok (.iload_n 2, 1) := by decide +kernel
theorem dX12_leaving_3 : decode cX12_leaving 3 = .ok (.aload_n 0, 1) := by decide +kernel
theorem dX12_leaving_4 : decode cX12_leaving 4 = .ok (.getfield 21, 3) := by decide +kernel
theorem dX12_leaving_7 : decode cX12_leaving 7 = .ok (.bipush 55, 2) := by decide +kernel
theorem dX12_leaving_9 : decode cX12_leaving 9 = .ok (.iaload, 1) := by decide +kernel
theorem dX12_leaving_10 : decode cX12_leaving 10 = .ok (.if_icmp .ge 77, 3) := by decide +kernel
theorem dX12_leaving_13 : decode cX12_leaving 13 = .ok (.iload_n 1, 1) := by decide +kernel
theorem dX12_leaving_14 : decode cX12_leaving 14 = .ok (.iload_n 2, 1) := by decide +kernel
theorem dX12_leaving_15 : decode cX12_leaving 15 = .ok (.invokestatic 237, 3) := by decide +kernel
theorem dX12_leaving_18 : decode cX12_leaving 18 = .ok (.ifCond .ne 63, 3) := by decide +kernel
theorem dX12_leaving_21 : decode cX12_leaving 21 = .ok (.aload_n 0, 1) := by decide +kernel
theorem dX12_leaving_22 : decode cX12_leaving 22 = .ok (.iload_n 2, 1) := by decide +kernel
theorem dX12_leaving_23 : decode cX12_leaving 23 = .ok (.invokevirtual 336, 3) := by decide +kernel
theorem dX12_leaving_26 : decode cX12_leaving 26 = .ok (.ifCond .eq 55, 3) := by decide +kernel
theorem dX12_leaving_29 : decode cX12_leaving 29 = .ok (.aload_n 0, 1) := by decide +kernel
theorem dX12_leaving_30 : decode cX12_leaving 30 = .ok (.iload_n 1, 1) := by decide +kernel
theorem dX12_leaving_31 : decode cX12_leaving 31 = .ok (.aload_n 0, 1) := by decide +kernel
theorem dX12_leaving_32 : decode cX12_leaving 32 = .ok (.getfield 21, 3) := by decide +kernel
theorem dX12_leaving_35 : decode cX12_leaving 35 = .ok (.iconst 5, 1) := by decide +kernel
theorem dX12_leaving_36 : decode cX12_leaving 36 = .ok (.iload_n 2, 1) := by decide +kernel
theorem dX12_leaving_37 : decode cX12_leaving 37 = .ok (.iadd, 1) := by decide +kernel
theorem dX12_leaving_38 : decode cX12_leaving 38 = .ok (.iaload, 1) := by decide +kernel
theorem dX12_leaving_39 : decode cX12_leaving 39 = .ok (.aload_n 0, 1) := by decide +kernel
theorem dX12_leaving_40 : decode cX12_leaving 40 = .ok (.getfield 21, 3) := by decide +kernel
theorem dX12_leaving_43 : decode cX12_leaving 43 = .ok (.bipush 15, 2) := by decide +kernel
theorem dX12_leaving_45 : decode cX12_leaving 45 = .ok (.iload_n 2, 1) := by decide +kernel
theorem dX12_leaving_46 : decode cX12_leaving 46 = .ok (.iadd, 1) := by decide +kernel
theorem dX12_leaving_47 : decode cX12_leaving 47 = .ok (.iaload, 1) := by decide +kernel
theorem dX12_leaving_48 : decode cX12_leaving 48 = .ok (.invokevirtual 430, 3) := by decide +kernel
theorem dX12_leaving_51 : decode cX12_leaving 51 = .ok (.ifCond .eq 30, 3) := by decide +kernel
theorem dX12_leaving_54 : decode cX12_leaving 54 = .ok (.aload_n 0, 1) := by decide +kernel
theorem dX12_leaving_55 : decode cX12_leaving 55 = .ok (.iload_n 1, 1) := by decide +kernel
theorem dX12_leaving_56 : decode cX12_leaving 56 = .ok (.aload_n 0, 1) := by decide +kernel
theorem dX12_leaving_57 : decode cX12_leaving 57 = .ok (.getfield 21, 3) := by decide +kernel
theorem dX12_leaving_60 : decode cX12_leaving 60 = .ok (.bipush 15, 2) := by decide +kernel
theorem dX12_leaving_62 : decode cX12_leaving 62 = .ok (.iload_n 2, 1) := by decide +kernel
theorem dX12_leaving_63 : decode cX12_leaving 63 = .ok (.iadd, 1) := by decide +kernel
theorem dX12_leaving_64 : decode cX12_leaving 64 = .ok (.iaload, 1) := by decide +kernel
theorem dX12_leaving_65 : decode cX12_leaving 65 = .ok (.aload_n 0, 1) := by decide +kernel
theorem dX12_leaving_66 : decode cX12_leaving 66 = .ok (.getfield 21, 3) := by decide +kernel
theorem dX12_leaving_69 : decode cX12_leaving 69 = .ok (.iconst 5, 1) := by decide +kernel
theorem dX12_leaving_70 : decode cX12_leaving 70 = .ok (.iload_n 2, 1) := by decide +kernel
theorem dX12_leaving_71 : decode cX12_leaving 71 = .ok (.iadd, 1) := by decide +kernel
theorem dX12_leaving_72 : decode cX12_leaving 72 = .ok (.iaload, 1) := by decide +kernel
theorem dX12_leaving_73 : decode cX12_leaving 73 = .ok (.invokevirtual 430, 3) := by decide +kernel
theorem dX12_leaving_76 : decode cX12_leaving 76 = .ok (.ifCond .eq 5, 3) := by decide +kernel
theorem dX12_leaving_79 : decode cX12_leaving 79 = .ok (.iload_n 2, 1) := by decide +kernel
theorem dX12_leaving_80 : decode cX12_leaving 80 = .ok (.ireturn, 1) := by decide +kernel
theorem dX12_leaving_81 : decode cX12_leaving 81 = .ok (.iinc 2 1, 3) := by decide +kernel
theorem dX12_leaving_84 : decode cX12_leaving 84 = .ok (.goto (-82), 3) := by decide +kernel
theorem dX12_leaving_87 : decode cX12_leaving 87 = .ok (.bipush (-2), 2) := by decide +kernel
theorem dX12_leaving_89 : decode cX12_leaving 89 = .ok (.ireturn, 1) := by decide +kernel
theorem dX12_isMatch_0 : decode cX12_isMatch 0 = .ok (.iconst 0, 1) := by decide +kernel
theorem dX12_isMatch_1 : decode cX12_isMatch 1 = .ok (.istore_n 2, 1) := by decide +kernel
theorem dX12_isMatch_2 : decode cX12_isMatch 2 = .ok (.iload_n 2, 1) := by decide +kernel
theorem dX12_isMatch_3 : decode cX12_isMatch 3 = .ok (.aload_n 0, 1) := by decide +kernel
theorem dX12_isMatch_4 : decode cX12_isMatch 4 = .ok (.getfield 21, 3) := by decide +kernel
theorem dX12_isMatch_7 : decode cX12_isMatch 7 = .ok (.bipush 55, 2) := by decide +kernel
theorem dX12_isMatch_9 : decode cX12_isMatch 9 = .ok (.iaload, 1) := by decide +kernel
theorem dX12_isMatch_10 : decode cX12_isMatch 10 = .ok (.if_icmp .ge 62, 3) := by decide +kernel
theorem dX12_isMatch_13 : decode cX12_isMatch 13 = .ok (.iload_n 1, 1) := by decide +kernel
theorem dX12_isMatch_14 : decode cX12_isMatch 14 = .ok (.iload_n 2, 1) := by decide +kernel
theorem dX12_isMatch_15 : decode cX12_isMatch 15 = .ok (.invokestatic 237, 3) := by decide +kernel
theorem dX12_isMatch_18 : decode cX12_isMatch 18 = .ok (.ifCond .ne 6, 3) := by decide +kernel
theorem dX12_isMatch_21 : decode cX12_isMatch 21 = .ok (.goto 45, 3) := by decide +kernel
theorem dX12_isMatch_24 : decode cX12_isMatch 24 = .ok (.aload_n 0, 1) := by decide +kernel
theorem dX12_isMatch_25 : decode cX12_isMatch 25 = .ok (.iload_n 2, 1) := by decide +kernel
theorem dX12_isMatch_26 : decode cX12_isMatch 26 = .ok (.invokevirtual 336, 3) := by decide +kernel
theorem dX12_isMatch_29 : decode cX12_isMatch 29 = .ok (.ifCond .ne 5, 3) := by decide +kernel
theorem dX12_isMatch_32 : decode cX12_isMatch 32 = .ok (.iconst 0, 1) := by decide +kernel
theorem dX12_isMatch_33 : decode cX12_isMatch 33 = .ok (.ireturn, 1) := by decide +kernel
theorem dX12_isMatch_34 : decode cX12_isMatch 34 = .ok (.iconst 0, 1) := by decide +kernel
theorem dX12_isMatch_35 : decode cX12_isMatch 35 = .ok (.istore_n 3, 1) := by decide +kernel
theorem dX12_isMatch_36 : decode cX12_isMatch 36 = .ok (.iload_n 3, 1) := by decide +kernel
theorem dX12_isMatch_37 : decode cX12_isMatch 37 = .ok (.iload_n 2, 1) := by decide +kernel
theorem dX12_isMatch_38 : decode cX12_isMatch 38 = .ok (.if_icmp .ge 28, 3) := by decide +kernel
theorem dX12_isMatch_41 : decode cX12_isMatch 41 = .ok (.iload_n 1, 1) := by decide +kernel
theorem dX12_isMatch_42 : decode cX12_isMatch 42 = .ok (.iload_n 3, 1) := by decide +kernel
theorem dX12_isMatch_43 : decode cX12_isMatch 43 = .ok (.invokestatic 237, 3) := by decide +kernel
theorem dX12_isMatch_46 : decode cX12_isMatch 46 = .ok (.ifCond .eq 14, 3) := by decide +kernel
theorem dX12_isMatch_49 : decode cX12_isMatch 49 = .ok (.aload_n 0, 1) := by decide +kernel
theorem dX12_isMatch_50 : decode cX12_isMatch 50 = .ok (.iload_n 2, 1) := by decide +kernel
theorem dX12_isMatch_51 : decode cX12_isMatch 51 = .ok (.iload_n 3, 1) := by decide +kernel
theorem dX12_isMatch_52 : decode cX12_isMatch 52 = .ok (.invokevirtual 363, 3) := by decide +kernel
theorem dX12_isMatch_55 : decode cX12_isMatch 55 = .ok (.ifCond .eq 5, 3) := by decide +kernel
theorem dX12_isMatch_58 : decode cX12_isMatch 58 = .ok (.iconst 0, 1) := by decide +kernel
theorem dX12_isMatch_59 : decode cX12_isMatch 59 = .ok (.ireturn, 1) := by decide +kernel
theorem dX12_isMatch_60 : decode cX12_isMatch 60 = .ok (.iinc 3 1, 3) := by decide +kernel
theorem dX12_isMatch_63 : decode cX12_isMatch 63 = .ok (.goto (-27), 3) := by decide +kernel
theorem dX12_isMatch_66 : decode cX12_isMatch 66 = .ok (.iinc 2 1, 3) := by decide +kernel
theorem dX12_isMatch_69 : decode cX12_isMatch 69 = .ok (.goto (-67), 3) := by decide +kernel
theorem dX12_isMatch_72 : decode cX12_isMatch 72 = .ok (.iconst 1, 1) := by decide +kernel
theorem dX12_isMatch_73 : decode cX12_isMatch 73 = .ok (.ireturn, 1) := by decide +kernel
theorem dX12_stables_0 : decode cX12_stables 0 = .ok (.aload_n 0, 1) := by decide +kernel
theorem dX12_stables_1 : decode cX12_stables 1 = .ok (.invokevirtual 333, 3) := by decide +kernel
theorem dX12_stables_4 : decode cX12_stables 4 = .ok (.aload_n 0, 1) := by decide +kernel
theorem dX12_stables_5 : decode cX12_stables 5 = .ok (.iconst 0, 1) := by decide +kernel
theorem dX12_stables_6 : decode cX12_stables 6 = .ok (.putfield 433, 3) := by decide +kernel
theorem dX12_stables_9 : decode cX12_stables 9 = .ok (.iconst (-1), 1) := by decide +kernel
theorem dX12_stables_10 : decode cX12_stables 10 = .ok (.istore_n 2, 1) := by decide +kernel
theorem dX12_stables_11 : decode cX12_stables 11 = .ok (.iconst 0, 1) := by decide +kernel
theorem dX12_stables_12 : decode cX12_stables 12 = .ok (.istore_n 3, 1) := by decide +kernel
theorem dX12_stables_13 : decode cX12_stables 13 = .ok (.iload_n 3, 1) := by decide +kernel
theorem dX12_stables_14 : decode cX12_stables 14 = .ok (.iconst 1, 1) := by decide +kernel
theorem dX12_stables_15 : decode cX12_stables 15 = .ok (.aload_n 0, 1) := by decide +kernel
theorem dX12_stables_16 : decode cX12_stables 16 = .ok (.getfield 21, 3) := by decide +kernel
theorem dX12_stables_19 : decode cX12_stables 19 = .ok (.bipush 55, 2) := by decide +kernel
theorem dX12_stables_21 : decode cX12_stables 21 = .ok (.iaload, 1) := by decide +kernel
theorem dX12_stables_22 : decode cX12_stables 22 = .ok (.ishl, 1) := by decide +kernel
theorem dX12_stables_23 : decode cX12_stables 23 = .ok (.if_icmp .ge 58, 3) := by decide +kernel
theorem dX12_stables_26 : decode cX12_stables 26 = .ok (.iload_n 3, 1) := by decide +kernel
theorem dX12_stables_27 : decode cX12_stables 27 = .ok (.invokestatic 234, 3) := by decide +kernel
theorem dX12_stables_30 : decode cX12_stables 30 = .ok (.iconst 2, 1) := by decide +kernel
theorem dX12_stables_31 : decode cX12_stables 31 = .ok (.if_icmp .gt 44, 3) := by decide +kernel
theorem dX12_stables_34 : decode cX12_stables 34 = .ok (.aload_n 0, 1) := by decide +kernel
theorem dX12_stables_35 : decode cX12_stables 35 = .ok (.iload_n 3, 1) := by decide +kernel
theorem dX12_stables_36 : decode cX12_stables 36 = .ok (.invokevirtual 436, 3) := by decide +kernel
theorem dX12_stables_39 : decode cX12_stables 39 = .ok (.ifCond .eq 36, 3) := by decide +kernel
theorem dX12_stables_42 : decode cX12_stables 42 = .ok (.aload_n 0, 1) := by decide +kernel
theorem dX12_stables_43 : decode cX12_stables 43 = .ok (.iload_n 3, 1) := by decide +kernel
theorem dX12_stables_44 : decode cX12_stables 44 = .ok (.invokevirtual 439, 3) := by decide +kernel
theorem dX12_stables_47 : decode cX12_stables 47 = .ok (.bipush (-2), 2) := by decide +kernel
theorem dX12_stables_49 : decode cX12_stables 49 = .ok (.if_icmp .eq 6, 3) := by decide +kernel
theorem dX12_stables_52 : decode cX12_stables 52 = .ok (.goto 23, 3) := by decide +kernel
theorem dX12_stables_55 : decode cX12_stables 55 = .ok (.aload_n 0, 1) := by decide +kernel
theorem dX12_stables_56 : decode cX12_stables 56 = .ok (.getfield 433, 3) := by decide +kernel
theorem dX12_stables_59 : decode cX12_stables 59 = .ok (.iload_n 1, 1) := by decide +kernel
theorem dX12_stables_60 : decode cX12_stables 60 = .ok (.if_icmp .ne 5, 3) := by decide +kernel
theorem dX12_stables_63 : decode cX12_stables 63 = .ok (.iload_n 3, 1) := by decide +kernel
theorem dX12_stables_64 : decode cX12_stables 64 = .ok (.istore_n 2, 1) := by decide +kernel
theorem dX12_stables_65 : decode cX12_stables 65 = .ok (.aload_n 0, 1) := by decide +kernel
theorem dX12_stables_66 : decode cX12_stables 66 = .ok (.dup, 1) := by decide +kernel
theorem dX12_stables_67 : decode cX12_stables 67 = .ok (.getfield 433, 3) := by decide +kernel
theorem dX12_stables_70 : decode cX12_stables 70 = .ok (.iconst 1, 1) := by decide +kernel
theorem dX12_stables_71 : decode cX12_stables 71 = .ok (.iadd, 1) := by decide +kernel
theorem dX12_stables_72 : decode cX12_stables 72 = .ok (.putfield 433, 3) := by decide +kernel
theorem dX12_stables_75 : decode cX12_stables 75 = .ok (.iinc 3 1, 3) := by decide +kernel
theorem dX12_stables_78 : decode cX12_stables 78 = .ok (.goto (-65), 3) := by decide +kernel
theorem dX12_stables_81 : decode cX12_stables 81 = .ok (.iload_n 2, 1) := by decide +kernel
theorem dX12_stables_82 : decode cX12_stables 82 = .ok (.ireturn, 1) := by decide +kernel
theorem dX12_stable_0 : decode cX12_stable 0 = .ok (.aload_n 0, 1) := by decide +kernel
theorem dX12_stable_1 : decode cX12_stable 1 = .ok (.iconst 0, 1) := by decide +kernel
theorem dX12_stable_2 : decode cX12_stable 2 = .ok (.putfield 39, 3) := by decide +kernel
theorem dX12_stable_5 : decode cX12_stable 5 = .ok (.aload_n 0, 1) := by decide +kernel
theorem dX12_stable_6 : decode cX12_stable 6 = .ok (.getfield 298, 3) := by decide +kernel
theorem dX12_stable_9 : decode cX12_stable 9 = .ok (.ifnonnull 9, 3) := by decide +kernel
theorem dX12_stable_12 : decode cX12_stable 12 = .ok (.aload_n 0, 1) := by decide +kernel
theorem dX12_stable_13 : decode cX12_stable 13 = .ok (.iconst 1, 1) := by decide +kernel
theorem dX12_stable_14 : decode cX12_stable 14 = .ok (.invokevirtual 45, 3) := by decide +kernel
theorem dX12_stable_17 : decode cX12_stable 17 = .ok (.ireturn, 1) := by decide +kernel
theorem dX12_stable_18 : decode cX12_stable 18 = .ok (.aload_n 0, 1) := by decide +kernel
theorem dX12_stable_19 : decode cX12_stable 19 = .ok (.iconst (-1), 1) := by decide +kernel
theorem dX12_stable_20 : decode cX12_stable 20 = .ok (.invokevirtual 442, 3) := by decide +kernel
theorem dX12_stable_23 : decode cX12_stable 23 = .ok (.pop, 1) := by decide +kernel
theorem dX12_stable_24 : decode cX12_stable 24 = .ok (.aload_n 0, 1) := by decide +kernel
theorem dX12_stable_25 : decode cX12_stable 25 = .ok (.aload_n 0, 1) := by decide +kernel
theorem dX12_stable_26 : decode cX12_stable 26 = .ok (.getfield 433, 3) := by decide +kernel
theorem dX12_stable_29 : decode cX12_stable 29 = .ok (.invokevirtual 49, 3) := by decide +kernel
theorem dX12_stable_32 : decode cX12_stable 32 = .ok (.ireturn, 1) := by decide +kernel
theorem dX12_stableAt_0 : decode cX12_stableAt 0 = .ok (.aload_n 0, 1) := by decide +kernel
theorem dX12_stableAt_1 : decode cX12_stableAt 1 = .ok (.iconst 0, 1) := by decide +kernel
theorem dX12_stableAt_2 : decode cX12_stableAt 2 = .ok (.putfield 39, 3) := by decide +kernel
theorem dX12_stableAt_5 : decode cX12_stableAt 5 = .ok (.aload_n 0, 1) := by decide +kernel
theorem dX12_stableAt_6 : decode cX12_stableAt 6 = .ok (.getfield 298, 3) := by decide +kernel
theorem dX12_stableAt_9 : decode cX12_stableAt 9 = .ok (.ifnull 7, 3) := by decide +kernel
theorem dX12_stableAt_12 : decode cX12_stableAt 12 = .ok (.iload_n 1, 1) := by decide +kernel
theorem dX12_stableAt_13 : decode cX12_stableAt 13 = .ok (.ifCond .ge 9, 3) := by decide +kernel
theorem dX12_stableAt_16 : decode cX12_stableAt 16 = .ok (.aload_n 0, 1) := by decide +kernel
theorem dX12_stableAt_17 : decode cX12_stableAt 17 = .ok (.iconst 1, 1) := by decide +kernel
theorem dX12_stableAt_18 : decode cX12_stableAt 18 = .ok (.invokevirtual 45, 3) := by decide +kernel
theorem dX12_stableAt_21 : decode cX12_stableAt 21 = .ok (.ireturn, 1) := by decide +kernel
theorem dX12_stableAt_22 : decode cX12_stableAt 22 = .ok (.aload_n 0, 1) := by decide +kernel
theorem dX12_stableAt_23 : decode cX12_stableAt 23 = .ok (.iload_n 1, 1) := by decide +kernel
theorem dX12_stableAt_24 : decode cX12_stableAt 24 = .ok (.invokevirtual 442, 3) := by decide +kernel
theorem dX12_stableAt_27 : decode cX12_stableAt 27 = .ok (.istore_n 2, 1) := by decide +kernel
theorem dX12_stableAt_28 : decode cX12_stableAt 28 = .ok (.iload_n 2, 1) := by decide +kernel
theorem dX12_stableAt_29 : decode cX12_stableAt 29 = .ok (.iconst (-1), 1) := by decide +kernel
theorem dX12_stableAt_30 : decode cX12_stableAt 30 = .ok (.if_icmp .ne 11, 3) := by decide +kernel
theorem dX12_stableAt_33 : decode cX12_stableAt 33 = .ok (.aload_n 0, 1) := by decide +kernel
theorem dX12_stableAt_34 : decode cX12_stableAt 34 = .ok (.iconst 1, 1) := by decide +kernel
theorem dX12_stableAt_35 : decode cX12_stableAt 35 = .ok (.invokevirtual 45, 3) := by decide +kernel
theorem dX12_stableAt_38 : decode cX12_stableAt 38 = .ok (.goto 8, 3) := by decide +kernel
theorem dX12_stableAt_41 : decode cX12_stableAt 41 = .ok (.aload_n 0, 1) := by decide +kernel
theorem dX12_stableAt_42 : decode cX12_stableAt 42 = .ok (.iload_n 2, 1) := by decide +kernel
theorem dX12_stableAt_43 : decode cX12_stableAt 43 = .ok (.invokevirtual 49, 3) := by decide +kernel
theorem dX12_stableAt_46 : decode cX12_stableAt 46 = .ok (.ireturn, 1) := by decide +kernel
theorem dX12_leaves_0 : decode cX12_leaves 0 = .ok (.aload_n 0, 1) := by decide +kernel
theorem dX12_leaves_1 : decode cX12_leaves 1 = .ok (.iconst 0, 1) := by decide +kernel
theorem dX12_leaves_2 : decode cX12_leaves 2 = .ok (.putfield 39, 3) := by decide +kernel
theorem dX12_leaves_5 : decode cX12_leaves 5 = .ok (.aload_n 0, 1) := by decide +kernel
theorem dX12_leaves_6 : decode cX12_leaves 6 = .ok (.getfield 298, 3) := by decide +kernel
theorem dX12_leaves_9 : decode cX12_leaves 9 = .ok (.ifnonnull 9, 3) := by decide +kernel
theorem dX12_leaves_12 : decode cX12_leaves 12 = .ok (.aload_n 0, 1) := by decide +kernel
theorem dX12_leaves_13 : decode cX12_leaves 13 = .ok (.iconst 1, 1) := by decide +kernel
theorem dX12_leaves_14 : decode cX12_leaves 14 = .ok (.invokevirtual 45, 3) := by decide +kernel
theorem dX12_leaves_17 : decode cX12_leaves 17 = .ok (.ireturn, 1) := by decide +kernel
theorem dX12_leaves_18 : decode cX12_leaves 18 = .ok (.aload_n 0, 1) := by decide +kernel
theorem dX12_leaves_19 : decode cX12_leaves 19 = .ok (.invokevirtual 333, 3) := by decide +kernel
theorem dX12_leaves_22 : decode cX12_leaves 22 = .ok (.aload_n 0, 1) := by decide +kernel
theorem dX12_leaves_23 : decode cX12_leaves 23 = .ok (.invokevirtual 366, 3) := by decide +kernel
theorem dX12_leaves_26 : decode cX12_leaves 26 = .ok (.pop, 1) := by decide +kernel
theorem dX12_leaves_27 : decode cX12_leaves 27 = .ok (.aload_n 0, 1) := by decide +kernel
theorem dX12_leaves_28 : decode cX12_leaves 28 = .ok (.aload_n 0, 1) := by decide +kernel
theorem dX12_leaves_29 : decode cX12_leaves 29 = .ok (.aload_n 0, 1) := by decide +kernel
theorem dX12_leaves_30 : decode cX12_leaves 30 = .ok (.getfield 354, 3) := by decide +kernel
theorem dX12_leaves_33 : decode cX12_leaves 33 = .ok (.invokevirtual 439, 3) := by decide +kernel
theorem dX12_leaves_36 : decode cX12_leaves 36 = .ok (.invokevirtual 49, 3) := by decide +kernel
theorem dX12_leaves_39 : decode cX12_leaves 39 = .ok (.ireturn, 1) := by decide +kernel
theorem dX12_wrongTried_0 : decode cX12_wrongTried 0 = .ok (.aload_n 0, 1) := by decide +kernel
theorem dX12_wrongTried_1 : decode cX12_wrongTried 1 = .ok (.iload_n 1, 1) := by decide +kernel
theorem dX12_wrongTried_2 : decode cX12_wrongTried 2 = .ok (.invokevirtual 300, 3) := by decide +kernel
theorem dX12_wrongTried_5 : decode cX12_wrongTried 5 = .ok (.iconst 0, 1) := by decide +kernel
theorem dX12_wrongTried_6 : decode cX12_wrongTried 6 = .ok (.istore_n 2, 1) := by decide +kernel
theorem dX12_wrongTried_7 : decode cX12_wrongTried 7 = .ok (.iload_n 2, 1) := by decide +kernel
theorem dX12_wrongTried_8 : decode cX12_wrongTried 8 = .ok (.aload_n 0, 1) := by decide +kernel
theorem dX12_wrongTried_9 : decode cX12_wrongTried 9 = .ok (.getfield 298, 3) := by decide +kernel
theorem dX12_wrongTried_12 : decode cX12_wrongTried 12 = .ok (.getfield 277, 3) := by decide +kernel
theorem dX12_wrongTried_15 : decode cX12_wrongTried 15 = .ok (.if_icmp .ge 38, 3) := by decide +kernel
theorem dX12_wrongTried_18 : decode cX12_wrongTried 18 = .ok (.aload_n 0, 1) := by decide +kernel
theorem dX12_wrongTried_19 : decode cX12_wrongTried 19 = .ok (.aload_n 0, 1) := by decide +kernel
theorem dX12_wrongTried_20 : decode cX12_wrongTried 20 = .ok (.getfield 298, 3) := by decide +kernel
theorem dX12_wrongTried_23 : decode cX12_wrongTried 23 = .ok (.getfield 287, 3) := by decide +kernel
theorem dX12_wrongTried_26 : decode cX12_wrongTried 26 = .ok (.iload_n 2, 1) := by decide +kernel
theorem dX12_wrongTried_27 : decode cX12_wrongTried 27 = .ok (.iaload, 1) := by decide +kernel
theorem dX12_wrongTried_28 : decode cX12_wrongTried 28 = .ok (.invokevirtual 336, 3) := by decide +kernel
theorem dX12_wrongTried_31 : decode cX12_wrongTried 31 = .ok (.aload_n 0, 1) := by decide +kernel
theorem dX12_wrongTried_32 : decode cX12_wrongTried 32 = .ok (.getfield 298, 3) := by decide +kernel
theorem dX12_wrongTried_35 : decode cX12_wrongTried 35 = .ok (.getfield 289, 3) := by decide +kernel
theorem dX12_wrongTried_38 : decode cX12_wrongTried 38 = .ok (.iload_n 2, 1) := by decide +kernel
theorem dX12_wrongTried_39 : decode cX12_wrongTried 39 = .ok (.invokestatic 237, 3) := by decide +kernel
theorem dX12_wrongTried_42 : decode cX12_wrongTried 42 = .ok (.if_icmp .eq 5, 3) := by decide +kernel
theorem dX12_wrongTried_45 : decode cX12_wrongTried 45 = .ok (.iload_n 2, 1) := by decide +kernel
theorem dX12_wrongTried_46 : decode cX12_wrongTried 46 = .ok (.ireturn, 1) := by decide +kernel
theorem dX12_wrongTried_47 : decode cX12_wrongTried 47 = .ok (.iinc 2 1, 3) := by decide +kernel
theorem dX12_wrongTried_50 : decode cX12_wrongTried 50 = .ok (.goto (-43), 3) := by decide +kernel
theorem dX12_wrongTried_53 : decode cX12_wrongTried 53 = .ok (.bipush (-2), 2) := by decide +kernel
theorem dX12_wrongTried_55 : decode cX12_wrongTried 55 = .ok (.ireturn, 1) := by decide +kernel
theorem dX12_fitting_0 : decode cX12_fitting 0 = .ok (.aload_n 0, 1) := by decide +kernel
theorem dX12_fitting_1 : decode cX12_fitting 1 = .ok (.iconst 0, 1) := by decide +kernel
theorem dX12_fitting_2 : decode cX12_fitting 2 = .ok (.putfield 445, 3) := by decide +kernel
theorem dX12_fitting_5 : decode cX12_fitting 5 = .ok (.aload_n 0, 1) := by decide +kernel
theorem dX12_fitting_6 : decode cX12_fitting 6 = .ok (.iconst 0, 1) := by decide +kernel
theorem dX12_fitting_7 : decode cX12_fitting 7 = .ok (.putfield 448, 3) := by decide +kernel
theorem dX12_fitting_10 : decode cX12_fitting 10 = .ok (.aload_n 0, 1) := by decide +kernel
theorem dX12_fitting_11 : decode cX12_fitting 11 = .ok (.iconst 1, 1) := by decide +kernel
theorem dX12_fitting_12 : decode cX12_fitting 12 = .ok (.aload_n 0, 1) := by decide +kernel
theorem dX12_fitting_13 : decode cX12_fitting 13 = .ok (.getfield 298, 3) := by decide +kernel
theorem dX12_fitting_16 : decode cX12_fitting 16 = .ok (.getfield 263, 3) := by decide +kernel
theorem dX12_fitting_19 : decode cX12_fitting 19 = .ok (.ishl, 1) := by decide +kernel
theorem dX12_fitting_20 : decode cX12_fitting 20 = .ok (.iconst 1, 1) := by decide +kernel
theorem dX12_fitting_21 : decode cX12_fitting 21 = .ok (.isub, 1) := by decide +kernel
theorem dX12_fitting_22 : decode cX12_fitting 22 = .ok (.putfield 451, 3) := by decide +kernel
theorem dX12_fitting_25 : decode cX12_fitting 25 = .ok (.iconst (-1), 1) := by decide +kernel
theorem dX12_fitting_26 : decode cX12_fitting 26 = .ok (.istore_n 2, 1) := by decide +kernel
theorem dX12_fitting_27 : decode cX12_fitting 27 = .ok (.iconst 0, 1) := by decide +kernel
theorem dX12_fitting_28 : decode cX12_fitting 28 = .ok (.istore_n 3, 1) := by decide +kernel
theorem dX12_fitting_29 : decode cX12_fitting 29 = .ok (.iload_n 3, 1) := by decide +kernel
theorem dX12_fitting_30 : decode cX12_fitting 30 = .ok (.iconst 4, 1) := by decide +kernel
theorem dX12_fitting_31 : decode cX12_fitting 31 = .ok (.if_icmp .ge 16, 3) := by decide +kernel
theorem dX12_fitting_34 : decode cX12_fitting 34 = .ok (.aload_n 0, 1) := by decide +kernel
theorem dX12_fitting_35 : decode cX12_fitting 35 = .ok (.getfield 36, 3) := by decide +kernel
theorem dX12_fitting_38 : decode cX12_fitting 38 = .ok (.iload_n 3, 1) := by decide +kernel
theorem dX12_fitting_39 : decode cX12_fitting 39 = .ok (.iconst 0, 1) := by decide +kernel
theorem dX12_fitting_40 : decode cX12_fitting 40 = .ok (.iastore, 1) := by decide +kernel
theorem dX12_fitting_41 : decode cX12_fitting 41 = .ok (.iinc 3 1, 3) := by decide +kernel
theorem dX12_fitting_44 : decode cX12_fitting 44 = .ok (.goto (-15), 3) := by decide +kernel
theorem dX12_fitting_47 : decode cX12_fitting 47 = .ok (.iconst 0, 1) := by decide +kernel
theorem dX12_fitting_48 : decode cX12_fitting 48 = .ok (.istore_n 3, 1) := by decide +kernel
theorem dX12_fitting_49 : decode cX12_fitting 49 = .ok (.iload_n 3, 1) := by decide +kernel
theorem dX12_fitting_50 : decode cX12_fitting 50 = .ok (.iconst 1, 1) := by decide +kernel
theorem dX12_fitting_51 : decode cX12_fitting 51 = .ok (.aload_n 0, 1) := by decide +kernel
theorem dX12_fitting_52 : decode cX12_fitting 52 = .ok (.getfield 298, 3) := by decide +kernel
theorem dX12_fitting_55 : decode cX12_fitting 55 = .ok (.getfield 263, 3) := by decide +kernel
theorem dX12_fitting_58 : decode cX12_fitting 58 = .ok (.ishl, 1) := by decide +kernel
theorem dX12_fitting_59 : decode cX12_fitting 59 = .ok (.if_icmp .ge 107, 3) := by decide +kernel
theorem dX12_fitting_62 : decode cX12_fitting 62 = .ok (.aload_n 0, 1) := by decide +kernel
theorem dX12_fitting_63 : decode cX12_fitting 63 = .ok (.iload_n 3, 1) := by decide +kernel
theorem dX12_fitting_64 : decode cX12_fitting 64 = .ok (.invokevirtual 454, 3) := by decide +kernel
theorem dX12_fitting_67 : decode cX12_fitting 67 = .ok (.bipush (-2), 2) := by decide +kernel
theorem dX12_fitting_69 : decode cX12_fitting 69 = .ok (.if_icmp .eq 6, 3) := by decide +kernel
theorem dX12_fitting_72 : decode cX12_fitting 72 = .ok (.goto 88, 3) := by decide +kernel
theorem dX12_fitting_75 : decode cX12_fitting 75 = .ok (.aload_n 0, 1) := by decide +kernel
theorem dX12_fitting_76 : decode cX12_fitting 76 = .ok (.getfield 445, 3) := by decide +kernel
theorem dX12_fitting_79 : decode cX12_fitting 79 = .ok (.iload_n 1, 1) := by decide +kernel
theorem dX12_fitting_80 : decode cX12_fitting 80 = .ok (.if_icmp .ne 5, 3) := by decide +kernel
theorem dX12_fitting_83 : decode cX12_fitting 83 = .ok (.iload_n 3, 1) := by decide +kernel
theorem dX12_fitting_84 : decode cX12_fitting 84 = .ok (.istore_n 2, 1) := by decide +kernel
theorem dX12_fitting_85 : decode cX12_fitting 85 = .ok (.aload_n 0, 1) := by decide +kernel
theorem dX12_fitting_86 : decode cX12_fitting 86 = .ok (.dup, 1) := by decide +kernel
theorem dX12_fitting_87 : decode cX12_fitting 87 = .ok (.getfield 445, 3) := by decide +kernel
theorem dX12_fitting_90 : decode cX12_fitting 90 = .ok (.iconst 1, 1) := by decide +kernel
theorem dX12_fitting_91 : decode cX12_fitting 91 = .ok (.iadd, 1) := by decide +kernel
theorem dX12_fitting_92 : decode cX12_fitting 92 = .ok (.putfield 445, 3) := by decide +kernel
theorem dX12_fitting_95 : decode cX12_fitting 95 = .ok (.aload_n 0, 1) := by decide +kernel
theorem dX12_fitting_96 : decode cX12_fitting 96 = .ok (.dup, 1) := by decide +kernel
theorem dX12_fitting_97 : decode cX12_fitting 97 = .ok (.getfield 448, 3) := by decide +kernel
theorem dX12_fitting_100 : decode cX12_fitting 100 = .ok (.iload_n 3, 1) := by decide +kernel
theorem dX12_fitting_101 : decode cX12_fitting 101 = .ok (.ior, 1) := by decide +kernel
theorem dX12_fitting_102 : decode cX12_fitting 102 = .ok (.putfield 448, 3) := by decide +kernel
theorem dX12_fitting_105 : decode cX12_fitting 105 = .ok (.aload_n 0, 1) := by decide +kernel
theorem dX12_fitting_106 : decode cX12_fitting 106 = .ok (.dup, 1) := by decide +kernel
theorem dX12_fitting_107 : decode cX12_fitting 107 = .ok (.getfield 451, 3) := by decide +kernel
theorem dX12_fitting_110 : decode cX12_fitting 110 = .ok (.iload_n 3, 1) := by decide +kernel
theorem dX12_fitting_111 : decode cX12_fitting 111 = .ok (.iand, 1) := by decide +kernel
theorem dX12_fitting_112 : decode cX12_fitting 112 = .ok (.putfield 451, 3) := by decide +kernel
theorem dX12_fitting_115 : decode cX12_fitting 115 = .ok (.iconst 0, 1) := by decide +kernel
theorem dX12_fitting_116 : decode cX12_fitting 116 = .ok (.istore 4, 2) := by decide +kernel
theorem dX12_fitting_118 : decode cX12_fitting 118 = .ok (.iload 4, 2) := by decide +kernel
theorem dX12_fitting_120 : decode cX12_fitting 120 = .ok (.aload_n 0, 1) := by decide +kernel
theorem dX12_fitting_121 : decode cX12_fitting 121 = .ok (.getfield 298, 3) := by decide +kernel
theorem dX12_fitting_124 : decode cX12_fitting 124 = .ok (.getfield 263, 3) := by decide +kernel
theorem dX12_fitting_127 : decode cX12_fitting 127 = .ok (.if_icmp .ge 33, 3) := by decide +kernel
theorem dX12_fitting_130 : decode cX12_fitting 130 = .ok (.aload_n 0, 1) := by decide +kernel
theorem dX12_fitting_131 : decode cX12_fitting 131 = .ok (.getfield 36, 3) := by decide +kernel
theorem dX12_fitting_134 : decode cX12_fitting 134 = .ok (.iload 4, 2) := by decide +kernel
theorem dX12_fitting_136 : decode cX12_fitting 136 = .ok (.dup2, 1) := by decide +kernel
theorem dX12_fitting_137 : decode cX12_fitting 137 = .ok (.iaload, 1) := by decide +kernel
theorem dX12_fitting_138 : decode cX12_fitting 138 = .ok (.iload_n 3, 1) := by decide +kernel
theorem dX12_fitting_139 : decode cX12_fitting 139 = .ok (.iload 4, 2) := by decide +kernel
theorem dX12_fitting_141 : decode cX12_fitting 141 = .ok (.invokestatic 237, 3) := by decide +kernel
theorem dX12_fitting_144 : decode cX12_fitting 144 = .ok (.ifCond .eq 7, 3) := by decide +kernel
theorem dX12_fitting_147 : decode cX12_fitting 147 = .ok (.iconst 1, 1) := by decide +kernel
theorem dX12_fitting_148 : decode cX12_fitting 148 = .ok (.goto 4, 3) := by decide +kernel
theorem dX12_fitting_151 : decode cX12_fitting 151 = .ok (.iconst 0, 1) := by decide +kernel
theorem dX12_fitting_152 : decode cX12_fitting 152 = .ok (.iadd, 1) := by decide +kernel
theorem dX12_fitting_153 : decode cX12_fitting 153 = .ok (.iastore, 1) := by decide +kernel
theorem dX12_fitting_154 : decode cX12_fitting 154 = .ok (.iinc 4 1, 3) := by decide +kernel
theorem dX12_fitting_157 : decode cX12_fitting 157 = .ok (.goto (-39), 3) := by decide +kernel
theorem dX12_fitting_160 : decode cX12_fitting 160 = .ok (.iinc 3 1, 3) := by decide +kernel
theorem dX12_fitting_163 : decode cX12_fitting 163 = .ok (.goto (-114), 3) := by decide +kernel
theorem dX12_fitting_166 : decode cX12_fitting 166 = .ok (.aload_n 0, 1) := by decide +kernel
theorem dX12_fitting_167 : decode cX12_fitting 167 = .ok (.getfield 445, 3) := by decide +kernel
theorem dX12_fitting_170 : decode cX12_fitting 170 = .ok (.ifCond .ne 8, 3) := by decide +kernel
theorem dX12_fitting_173 : decode cX12_fitting 173 = .ok (.aload_n 0, 1) := by decide +kernel
theorem dX12_fitting_174 : decode cX12_fitting 174 = .ok (.iconst 0, 1) := by decide +kernel
theorem dX12_fitting_175 : decode cX12_fitting 175 = .ok (.putfield 451, 3) := by decide +kernel
theorem dX12_fitting_178 : decode cX12_fitting 178 = .ok (.iload_n 2, 1) := by decide +kernel
theorem dX12_fitting_179 : decode cX12_fitting 179 = .ok (.ireturn, 1) := by decide +kernel
theorem dX12_fits_0 : decode cX12_fits 0 = .ok (.aload_n 0, 1) := by decide +kernel
theorem dX12_fits_1 : decode cX12_fits 1 = .ok (.iconst 0, 1) := by decide +kernel
theorem dX12_fits_2 : decode cX12_fits 2 = .ok (.putfield 39, 3) := by decide +kernel
theorem dX12_fits_5 : decode cX12_fits 5 = .ok (.aload_n 0, 1) := by decide +kernel
theorem dX12_fits_6 : decode cX12_fits 6 = .ok (.getfield 298, 3) := by decide +kernel
theorem dX12_fits_9 : decode cX12_fits 9 = .ok (.ifnonnull 9, 3) := by decide +kernel
theorem dX12_fits_12 : decode cX12_fits 12 = .ok (.aload_n 0, 1) := by decide +kernel
theorem dX12_fits_13 : decode cX12_fits 13 = .ok (.iconst 1, 1) := by decide +kernel
theorem dX12_fits_14 : decode cX12_fits 14 = .ok (.invokevirtual 45, 3) := by decide +kernel
theorem dX12_fits_17 : decode cX12_fits 17 = .ok (.ireturn, 1) := by decide +kernel
theorem dX12_fits_18 : decode cX12_fits 18 = .ok (.aload_n 0, 1) := by decide +kernel
theorem dX12_fits_19 : decode cX12_fits 19 = .ok (.iconst (-1), 1) := by decide +kernel
theorem dX12_fits_20 : decode cX12_fits 20 = .ok (.invokevirtual 457, 3) := by decide +kernel
theorem dX12_fits_23 : decode cX12_fits 23 = .ok (.pop, 1) := by decide +kernel
theorem dX12_fits_24 : decode cX12_fits 24 = .ok (.aload_n 0, 1) := by decide +kernel
theorem dX12_fits_25 : decode cX12_fits 25 = .ok (.aload_n 0, 1) := by decide +kernel
theorem dX12_fits_26 : decode cX12_fits 26 = .ok (.getfield 445, 3) := by decide +kernel
theorem dX12_fits_29 : decode cX12_fits 29 = .ok (.invokevirtual 49, 3) := by decide +kernel
theorem dX12_fits_32 : decode cX12_fits 32 = .ok (.ireturn, 1) := by decide +kernel
theorem dX12_fitAt_0 : decode cX12_fitAt 0 = .ok (.aload_n 0, 1) := by decide +kernel
theorem dX12_fitAt_1 : decode cX12_fitAt 1 = .ok (.iconst 0, 1) := by decide +kernel
theorem dX12_fitAt_2 : decode cX12_fitAt 2 = .ok (.putfield 39, 3) := by decide +kernel
theorem dX12_fitAt_5 : decode cX12_fitAt 5 = .ok (.aload_n 0, 1) := by decide +kernel
theorem dX12_fitAt_6 : decode cX12_fitAt 6 = .ok (.getfield 298, 3) := by decide +kernel
theorem dX12_fitAt_9 : decode cX12_fitAt 9 = .ok (.ifnull 7, 3) := by decide +kernel
theorem dX12_fitAt_12 : decode cX12_fitAt 12 = .ok (.iload_n 1, 1) := by decide +kernel
theorem dX12_fitAt_13 : decode cX12_fitAt 13 = .ok (.ifCond .ge 9, 3) := by decide +kernel
theorem dX12_fitAt_16 : decode cX12_fitAt 16 = .ok (.aload_n 0, 1) := by decide +kernel
theorem dX12_fitAt_17 : decode cX12_fitAt 17 = .ok (.iconst 1, 1) := by decide +kernel
theorem dX12_fitAt_18 : decode cX12_fitAt 18 = .ok (.invokevirtual 45, 3) := by decide +kernel
theorem dX12_fitAt_21 : decode cX12_fitAt 21 = .ok (.ireturn, 1) := by decide +kernel
theorem dX12_fitAt_22 : decode cX12_fitAt 22 = .ok (.aload_n 0, 1) := by decide +kernel
theorem dX12_fitAt_23 : decode cX12_fitAt 23 = .ok (.iload_n 1, 1) := by decide +kernel
theorem dX12_fitAt_24 : decode cX12_fitAt 24 = .ok (.invokevirtual 457, 3) := by decide +kernel
theorem dX12_fitAt_27 : decode cX12_fitAt 27 = .ok (.istore_n 2, 1) := by decide +kernel
theorem dX12_fitAt_28 : decode cX12_fitAt 28 = .ok (.iload_n 2, 1) := by decide +kernel
theorem dX12_fitAt_29 : decode cX12_fitAt 29 = .ok (.iconst (-1), 1) := by decide +kernel
theorem dX12_fitAt_30 : decode cX12_fitAt 30 = .ok (.if_icmp .ne 11, 3) := by decide +kernel
theorem dX12_fitAt_33 : decode cX12_fitAt 33 = .ok (.aload_n 0, 1) := by decide +kernel
theorem dX12_fitAt_34 : decode cX12_fitAt 34 = .ok (.iconst 1, 1) := by decide +kernel
theorem dX12_fitAt_35 : decode cX12_fitAt 35 = .ok (.invokevirtual 45, 3) := by decide +kernel
theorem dX12_fitAt_38 : decode cX12_fitAt 38 = .ok (.goto 8, 3) := by decide +kernel
theorem dX12_fitAt_41 : decode cX12_fitAt 41 = .ok (.aload_n 0, 1) := by decide +kernel
theorem dX12_fitAt_42 : decode cX12_fitAt 42 = .ok (.iload_n 2, 1) := by decide +kernel
theorem dX12_fitAt_43 : decode cX12_fitAt 43 = .ok (.invokevirtual 49, 3) := by decide +kernel
theorem dX12_fitAt_46 : decode cX12_fitAt 46 = .ok (.ireturn, 1) := by decide +kernel
theorem dX12_could_0 : decode cX12_could 0 = .ok (.aload_n 0, 1) := by decide +kernel
theorem dX12_could_1 : decode cX12_could 1 = .ok (.iconst 0, 1) := by decide +kernel
theorem dX12_could_2 : decode cX12_could 2 = .ok (.putfield 39, 3) := by decide +kernel
theorem dX12_could_5 : decode cX12_could 5 = .ok (.aload_n 0, 1) := by decide +kernel
theorem dX12_could_6 : decode cX12_could 6 = .ok (.getfield 298, 3) := by decide +kernel
theorem dX12_could_9 : decode cX12_could 9 = .ok (.ifnonnull 9, 3) := by decide +kernel
theorem dX12_could_12 : decode cX12_could 12 = .ok (.aload_n 0, 1) := by decide +kernel
theorem dX12_could_13 : decode cX12_could 13 = .ok (.iconst 1, 1) := by decide +kernel
theorem dX12_could_14 : decode cX12_could 14 = .ok (.invokevirtual 45, 3) := by decide +kernel
theorem dX12_could_17 : decode cX12_could 17 = .ok (.ireturn, 1) := by decide +kernel
theorem dX12_could_18 : decode cX12_could 18 = .ok (.aload_n 0, 1) := by decide +kernel
theorem dX12_could_19 : decode cX12_could 19 = .ok (.iconst (-1), 1) := by decide +kernel
theorem dX12_could_20 : decode cX12_could 20 = .ok (.invokevirtual 457, 3) := by decide +kernel
theorem dX12_could_23 : decode cX12_could 23 = .ok (.pop, 1) := by decide +kernel
theorem dX12_could_24 : decode cX12_could 24 = .ok (.aload_n 0, 1) := by decide +kernel
theorem dX12_could_25 : decode cX12_could 25 = .ok (.aload_n 0, 1) := by decide +kernel
theorem dX12_could_26 : decode cX12_could 26 = .ok (.getfield 448, 3) := by decide +kernel
theorem dX12_could_29 : decode cX12_could 29 = .ok (.invokevirtual 49, 3) := by decide +kernel
theorem dX12_could_32 : decode cX12_could 32 = .ok (.ireturn, 1) := by decide +kernel
theorem dX12_surely_0 : decode cX12_surely 0 = .ok (.aload_n 0, 1) := by decide +kernel
theorem dX12_surely_1 : decode cX12_surely 1 = .ok (.iconst 0, 1) := by decide +kernel
theorem dX12_surely_2 : decode cX12_surely 2 = .ok (.putfield 39, 3) := by decide +kernel
theorem dX12_surely_5 : decode cX12_surely 5 = .ok (.aload_n 0, 1) := by decide +kernel
theorem dX12_surely_6 : decode cX12_surely 6 = .ok (.getfield 298, 3) := by decide +kernel
theorem dX12_surely_9 : decode cX12_surely 9 = .ok (.ifnonnull 9, 3) := by decide +kernel
theorem dX12_surely_12 : decode cX12_surely 12 = .ok (.aload_n 0, 1) := by decide +kernel
theorem dX12_surely_13 : decode cX12_surely 13 = .ok (.iconst 1, 1) := by decide +kernel
theorem dX12_surely_14 : decode cX12_surely 14 = .ok (.invokevirtual 45, 3) := by decide +kernel
theorem dX12_surely_17 : decode cX12_surely 17 = .ok (.ireturn, 1) := by decide +kernel
theorem dX12_surely_18 : decode cX12_surely 18 = .ok (.aload_n 0, 1) := by decide +kernel
theorem dX12_surely_19 : decode cX12_surely 19 = .ok (.iconst (-1), 1) := by decide +kernel
theorem dX12_surely_20 : decode cX12_surely 20 = .ok (.invokevirtual 457, 3) := by decide +kernel
theorem dX12_surely_23 : decode cX12_surely 23 = .ok (.pop, 1) := by decide +kernel
theorem dX12_surely_24 : decode cX12_surely 24 = .ok (.aload_n 0, 1) := by decide +kernel
theorem dX12_surely_25 : decode cX12_surely 25 = .ok (.aload_n 0, 1) := by decide +kernel
theorem dX12_surely_26 : decode cX12_surely 26 = .ok (.getfield 451, 3) := by decide +kernel
theorem dX12_surely_29 : decode cX12_surely 29 = .ok (.invokevirtual 49, 3) := by decide +kernel
theorem dX12_surely_32 : decode cX12_surely 32 = .ok (.ireturn, 1) := by decide +kernel
theorem dX12_asks_0 : decode cX12_asks 0 = .ok (.aload_n 0, 1) := by decide +kernel
theorem dX12_asks_1 : decode cX12_asks 1 = .ok (.iconst (-1), 1) := by decide +kernel
theorem dX12_asks_2 : decode cX12_asks 2 = .ok (.invokevirtual 457, 3) := by decide +kernel
theorem dX12_asks_5 : decode cX12_asks 5 = .ok (.pop, 1) := by decide +kernel
theorem dX12_asks_6 : decode cX12_asks 6 = .ok (.bipush (-2), 2) := by decide +kernel
theorem dX12_asks_8 : decode cX12_asks 8 = .ok (.istore_n 1, 1) := by decide +kernel
theorem dX12_asks_9 : decode cX12_asks 9 = .ok (.aload_n 0, 1) := by decide +kernel
theorem dX12_asks_10 : decode cX12_asks 10 = .ok (.bipush (-2), 2) := by decide +kernel
theorem dX12_asks_12 : decode cX12_asks 12 = .ok (.putfield 460, 3) := by decide +kernel
theorem dX12_asks_15 : decode cX12_asks 15 = .ok (.iconst 0, 1) := by decide +kernel
theorem dX12_asks_16 : decode cX12_asks 16 = .ok (.istore_n 2, 1) := by decide +kernel
theorem dX12_asks_17 : decode cX12_asks 17 = .ok (.iload_n 2, 1) := by decide +kernel
theorem dX12_asks_18 : decode cX12_asks 18 = .ok (.aload_n 0, 1) := by decide +kernel
theorem dX12_asks_19 : decode cX12_asks 19 = .ok (.getfield 298, 3) := by decide +kernel
theorem dX12_asks_22 : decode cX12_asks 22 = .ok (.getfield 263, 3) := by decide +kernel
theorem dX12_asks_25 : decode cX12_asks 25 = .ok (.if_icmp .ge 81, 3) := by decide +kernel
theorem dX12_asks_28 : decode cX12_asks 28 = .ok (.aload_n 0, 1) := by decide +kernel
theorem dX12_asks_29 : decode cX12_asks 29 = .ok (.getfield 445, 3) := by decide +kernel
theorem dX12_asks_32 : decode cX12_asks 32 = .ok (.ifCond .le 74, 3) := by decide +kernel
theorem dX12_asks_35 : decode cX12_asks 35 = .ok (.aload_n 0, 1) := by decide +kernel
theorem dX12_asks_36 : decode cX12_asks 36 = .ok (.getfield 36, 3) := by decide +kernel
theorem dX12_asks_39 : decode cX12_asks 39 = .ok (.iload_n 2, 1) := by decide +kernel
theorem dX12_asks_40 : decode cX12_asks 40 = .ok (.iaload, 1) := by decide +kernel
theorem dX12_asks_41 : decode cX12_asks 41 = .ok (.aload_n 0, 1) := by decide +kernel
theorem dX12_asks_42 : decode cX12_asks 42 = .ok (.getfield 445, 3) := by decide +kernel
theorem dX12_asks_45 : decode cX12_asks 45 = .ok (.aload_n 0, 1) := by decide +kernel
theorem dX12_asks_46 : decode cX12_asks 46 = .ok (.getfield 36, 3) := by decide +kernel
theorem dX12_asks_49 : decode cX12_asks 49 = .ok (.iload_n 2, 1) := by decide +kernel
theorem dX12_asks_50 : decode cX12_asks 50 = .ok (.iaload, 1) := by decide +kernel
theorem dX12_asks_51 : decode cX12_asks 51 = .ok (.isub, 1) := by decide +kernel
theorem dX12_asks_52 : decode cX12_asks 52 = .ok (.if_icmp .le 12, 3) := by decide +kernel
theorem dX12_asks_55 : decode cX12_asks 55 = .ok (.aload_n 0, 1) := by decide +kernel
theorem dX12_asks_56 : decode cX12_asks 56 = .ok (.getfield 36, 3) := by decide +kernel
theorem dX12_asks_59 : decode cX12_asks 59 = .ok (.iload_n 2, 1) := by decide +kernel
theorem dX12_asks_60 : decode cX12_asks 60 = .ok (.iaload, 1) := by decide +kernel
theorem dX12_asks_61 : decode cX12_asks 61 = .ok (.goto 14, 3) := by decide +kernel
theorem dX12_asks_64 : decode cX12_asks 64 = .ok (.aload_n 0, 1) := by decide +kernel
theorem dX12_asks_65 : decode cX12_asks 65 = .ok (.getfield 445, 3) := by decide +kernel
theorem dX12_asks_68 : decode cX12_asks 68 = .ok (.aload_n 0, 1) := by decide +kernel
theorem dX12_asks_69 : decode cX12_asks 69 = .ok (.getfield 36, 3) := by decide +kernel
theorem dX12_asks_72 : decode cX12_asks 72 = .ok (.iload_n 2, 1) := by decide +kernel
theorem dX12_asks_73 : decode cX12_asks 73 = .ok (.iaload, 1) := by decide +kernel
theorem dX12_asks_74 : decode cX12_asks 74 = .ok (.isub, 1) := by decide +kernel
theorem dX12_asks_75 : decode cX12_asks 75 = .ok (.istore_n 3, 1) := by decide +kernel
theorem dX12_asks_76 : decode cX12_asks 76 = .ok (.iload_n 1, 1) := by decide +kernel
theorem dX12_asks_77 : decode cX12_asks 77 = .ok (.bipush (-2), 2) := by decide +kernel
theorem dX12_asks_79 : decode cX12_asks 79 = .ok (.if_icmp .eq 14, 3) := by decide +kernel
theorem dX12_asks_82 : decode cX12_asks 82 = .ok (.iload_n 3, 1) := by decide +kernel
theorem dX12_asks_83 : decode cX12_asks 83 = .ok (.aload_n 0, 1) := by decide +kernel
theorem dX12_asks_84 : decode cX12_asks 84 = .ok (.getfield 460, 3) := by decide +kernel
theorem dX12_asks_87 : decode cX12_asks 87 = .ok (.if_icmp .lt 6, 3) := by decide +kernel
theorem dX12_asks_90 : decode cX12_asks 90 = .ok (.goto 10, 3) := by decide +kernel
theorem dX12_asks_93 : decode cX12_asks 93 = .ok (.iload_n 2, 1) := by decide +kernel
theorem dX12_asks_94 : decode cX12_asks 94 = .ok (.istore_n 1, 1) := by decide +kernel
theorem dX12_asks_95 : decode cX12_asks 95 = .ok (.aload_n 0, 1) := by decide +kernel
theorem dX12_asks_96 : decode cX12_asks 96 = .ok (.iload_n 3, 1) := by decide +kernel
theorem dX12_asks_97 : decode cX12_asks 97 = .ok (.putfield 460, 3) := by decide +kernel
theorem dX12_asks_100 : decode cX12_asks 100 = .ok (.iinc 2 1, 3) := by decide +kernel
theorem dX12_asks_103 : decode cX12_asks 103 = .ok (.goto (-86), 3) := by decide +kernel
theorem dX12_asks_106 : decode cX12_asks 106 = .ok (.iload_n 1, 1) := by decide +kernel
theorem dX12_asks_107 : decode cX12_asks 107 = .ok (.ireturn, 1) := by decide +kernel
theorem dX12_ask_0 : decode cX12_ask 0 = .ok (.aload_n 0, 1) := by decide +kernel
theorem dX12_ask_1 : decode cX12_ask 1 = .ok (.iconst 0, 1) := by decide +kernel
theorem dX12_ask_2 : decode cX12_ask 2 = .ok (.putfield 39, 3) := by decide +kernel
theorem dX12_ask_5 : decode cX12_ask 5 = .ok (.aload_n 0, 1) := by decide +kernel
theorem dX12_ask_6 : decode cX12_ask 6 = .ok (.getfield 298, 3) := by decide +kernel
theorem dX12_ask_9 : decode cX12_ask 9 = .ok (.ifnonnull 11, 3) := by decide +kernel
theorem dX12_ask_12 : decode cX12_ask 12 = .ok (.aload_n 0, 1) := by decide +kernel
theorem dX12_ask_13 : decode cX12_ask 13 = .ok (.iconst 1, 1) := by decide +kernel
theorem dX12_ask_14 : decode cX12_ask 14 = .ok (.invokevirtual 45, 3) := by decide +kernel
theorem dX12_ask_17 : decode cX12_ask 17 = .ok (.goto 11, 3) := by decide +kernel
theorem dX12_ask_20 : decode cX12_ask 20 = .ok (.aload_n 0, 1) := by decide +kernel
theorem dX12_ask_21 : decode cX12_ask 21 = .ok (.aload_n 0, 1) := by decide +kernel
theorem dX12_ask_22 : decode cX12_ask 22 = .ok (.invokevirtual 463, 3) := by decide +kernel
theorem dX12_ask_25 : decode cX12_ask 25 = .ok (.invokevirtual 49, 3) := by decide +kernel
theorem dX12_ask_28 : decode cX12_ask 28 = .ok (.ireturn, 1) := by decide +kernel
theorem dX12_askLeaves_0 : decode cX12_askLeaves 0 = .ok (.aload_n 0, 1) := by decide +kernel
theorem dX12_askLeaves_1 : decode cX12_askLeaves 1 = .ok (.iconst 0, 1) := by decide +kernel
theorem dX12_askLeaves_2 : decode cX12_askLeaves 2 = .ok (.putfield 39, 3) := by decide +kernel
theorem dX12_askLeaves_5 : decode cX12_askLeaves 5 = .ok (.aload_n 0, 1) := by decide +kernel
theorem dX12_askLeaves_6 : decode cX12_askLeaves 6 = .ok (.getfield 298, 3) := by decide +kernel
theorem dX12_askLeaves_9 : decode cX12_askLeaves 9 = .ok (.ifnonnull 9, 3) := by decide +kernel
theorem dX12_askLeaves_12 : decode cX12_askLeaves 12 = .ok (.aload_n 0, 1) := by decide +kernel
theorem dX12_askLeaves_13 : decode cX12_askLeaves 13 = .ok (.iconst 1, 1) := by decide +kernel
theorem dX12_askLeaves_14 : decode cX12_askLeaves 14 = .ok (.invokevirtual 45, 3) := by decide +kernel
theorem dX12_askLeaves_17 : decode cX12_askLeaves 17 = .ok (.ireturn, 1) := by decide +kernel
theorem dX12_askLeaves_18 : decode cX12_askLeaves 18 = .ok (.aload_n 0, 1) := by decide +kernel
theorem dX12_askLeaves_19 : decode cX12_askLeaves 19 = .ok (.invokevirtual 463, 3) := by decide +kernel
theorem dX12_askLeaves_22 : decode cX12_askLeaves 22 = .ok (.pop, 1) := by decide +kernel
theorem dX12_askLeaves_23 : decode cX12_askLeaves 23 = .ok (.aload_n 0, 1) := by decide +kernel
theorem dX12_askLeaves_24 : decode cX12_askLeaves 24 = .ok (.aload_n 0, 1) := by decide +kernel
theorem dX12_askLeaves_25 : decode cX12_askLeaves 25 = .ok (.getfield 460, 3) := by decide +kernel
theorem dX12_askLeaves_28 : decode cX12_askLeaves 28 = .ok (.invokevirtual 49, 3) := by decide +kernel
theorem dX12_askLeaves_31 : decode cX12_askLeaves 31 = .ok (.ireturn, 1) := by decide +kernel
theorem dX12_judge_0 : decode cX12_judge 0 = .ok (.aload_n 0, 1) := by decide +kernel
theorem dX12_judge_1 : decode cX12_judge 1 = .ok (.iconst 0, 1) := by decide +kernel
theorem dX12_judge_2 : decode cX12_judge 2 = .ok (.putfield 39, 3) := by decide +kernel
theorem dX12_judge_5 : decode cX12_judge 5 = .ok (.aload_n 0, 1) := by decide +kernel
theorem dX12_judge_6 : decode cX12_judge 6 = .ok (.getfield 298, 3) := by decide +kernel
theorem dX12_judge_9 : decode cX12_judge 9 = .ok (.ifnonnull 11, 3) := by decide +kernel
theorem dX12_judge_12 : decode cX12_judge 12 = .ok (.aload_n 0, 1) := by decide +kernel
theorem dX12_judge_13 : decode cX12_judge 13 = .ok (.iconst 1, 1) := by decide +kernel
theorem dX12_judge_14 : decode cX12_judge 14 = .ok (.invokevirtual 45, 3) := by decide +kernel
theorem dX12_judge_17 : decode cX12_judge 17 = .ok (.goto 12, 3) := by decide +kernel
theorem dX12_judge_20 : decode cX12_judge 20 = .ok (.aload_n 0, 1) := by decide +kernel
theorem dX12_judge_21 : decode cX12_judge 21 = .ok (.aload_n 0, 1) := by decide +kernel
theorem dX12_judge_22 : decode cX12_judge 22 = .ok (.iconst 0, 1) := by decide +kernel
theorem dX12_judge_23 : decode cX12_judge 23 = .ok (.invokevirtual 454, 3) := by decide +kernel
theorem dX12_judge_26 : decode cX12_judge 26 = .ok (.invokevirtual 49, 3) := by decide +kernel
theorem dX12_judge_29 : decode cX12_judge 29 = .ok (.ireturn, 1) := by decide +kernel
theorem dX12_gets_0 : decode cX12_gets 0 = .ok (.iload_n 1, 1) := by decide +kernel
theorem dX12_gets_1 : decode cX12_gets 1 = .ok (.ifCond .eq 16, 3) := by decide +kernel
theorem dX12_gets_4 : decode cX12_gets 4 = .ok (.iload_n 2, 1) := by decide +kernel
theorem dX12_gets_5 : decode cX12_gets 5 = .ok (.ifCond .eq 8, 3) := by decide +kernel
theorem dX12_gets_8 : decode cX12_gets 8 = .ok (.iload_n 0, 1) := by decide +kernel
theorem dX12_gets_9 : decode cX12_gets 9 = .ok (.ineg, 1) := by decide +kernel
theorem dX12_gets_10 : decode cX12_gets 10 = .ok (.goto 16, 3) := by decide +kernel
theorem dX12_gets_13 : decode cX12_gets 13 = .ok (.iconst 0, 1) := by decide +kernel
theorem dX12_gets_14 : decode cX12_gets 14 = .ok (.goto 12, 3) := by decide +kernel
theorem dX12_gets_17 : decode cX12_gets 17 = .ok (.iload_n 2, 1) := by decide +kernel
theorem dX12_gets_18 : decode cX12_gets 18 = .ok (.ifCond .eq 7, 3) := by decide +kernel
theorem dX12_gets_21 : decode cX12_gets 21 = .ok (.iconst 4, 1) := by decide +kernel
theorem dX12_gets_22 : decode cX12_gets 22 = .ok (.goto 4, 3) := by decide +kernel
theorem dX12_gets_25 : decode cX12_gets 25 = .ok (.iconst 2, 1) := by decide +kernel
theorem dX12_gets_26 : decode cX12_gets 26 = .ok (.ireturn, 1) := by decide +kernel
theorem dX12_refusesPride_0 : decode cX12_refusesPride 0 = .ok (.aload_n 0, 1) := by decide +kernel
theorem dX12_refusesPride_1 : decode cX12_refusesPride 1 = .ok (.getfield 298, 3) := by decide +kernel
theorem dX12_refusesPride_4 : decode cX12_refusesPride 4 = .ok (.ifnonnull 7, 3) := by decide +kernel
theorem dX12_refusesPride_7 : decode cX12_refusesPride 7 = .ok (.iconst 1, 1) := by decide +kernel
theorem dX12_refusesPride_8 : decode cX12_refusesPride 8 = .ok (.goto 18, 3) := by decide +kernel
theorem dX12_refusesPride_11 : decode cX12_refusesPride 11 = .ok (.iload_n 1, 1) := by decide +kernel
theorem dX12_refusesPride_12 : decode cX12_refusesPride 12 = .ok (.iconst 0, 1) := by decide +kernel
theorem dX12_refusesPride_13 : decode cX12_refusesPride 13 = .ok (.bipush 9, 2) := by decide +kernel
theorem dX12_refusesPride_15 : decode cX12_refusesPride 15 = .ok (.invokestatic 118, 3) := by decide +kernel
theorem dX12_refusesPride_18 : decode cX12_refusesPride 18 = .ok (.ifCond .eq 7, 3) := by decide +kernel
theorem dX12_refusesPride_21 : decode cX12_refusesPride 21 = .ok (.iconst 0, 1) := by decide +kernel
theorem dX12_refusesPride_22 : decode cX12_refusesPride 22 = .ok (.goto 4, 3) := by decide +kernel
theorem dX12_refusesPride_25 : decode cX12_refusesPride 25 = .ok (.iconst 2, 1) := by decide +kernel
theorem dX12_refusesPride_26 : decode cX12_refusesPride 26 = .ok (.ireturn, 1) := by decide +kernel
theorem dX12_saw_0 : decode cX12_saw 0 = .ok (.aload_n 0, 1) := by decide +kernel
theorem dX12_saw_1 : decode cX12_saw 1 = .ok (.iconst 0, 1) := by decide +kernel
theorem dX12_saw_2 : decode cX12_saw 2 = .ok (.putfield 39, 3) := by decide +kernel
theorem dX12_saw_5 : decode cX12_saw 5 = .ok (.aload_n 0, 1) := by decide +kernel
theorem dX12_saw_6 : decode cX12_saw 6 = .ok (.iload_n 1, 1) := by decide +kernel
theorem dX12_saw_7 : decode cX12_saw 7 = .ok (.invokevirtual 466, 3) := by decide +kernel
theorem dX12_saw_10 : decode cX12_saw 10 = .ok (.istore 5, 2) := by decide +kernel
theorem dX12_saw_12 : decode cX12_saw 12 = .ok (.iload 5, 2) := by decide +kernel
theorem dX12_saw_14 : decode cX12_saw 14 = .ok (.ifCond .le 12, 3) := by decide +kernel
theorem dX12_saw_17 : decode cX12_saw 17 = .ok (.aload_n 0, 1) := by decide +kernel
theorem dX12_saw_18 : decode cX12_saw 18 = .ok (.iload 5, 2) := by decide +kernel
theorem dX12_saw_20 : decode cX12_saw 20 = .ok (.invokevirtual 469, 3) := by decide +kernel
theorem dX12_saw_23 : decode cX12_saw 23 = .ok (.goto 27, 3) := by decide +kernel
theorem dX12_saw_26 : decode cX12_saw 26 = .ok (.aload_n 0, 1) := by decide +kernel
theorem dX12_saw_27 : decode cX12_saw 27 = .ok (.iload 4, 2) := by decide +kernel
theorem dX12_saw_29 : decode cX12_saw 29 = .ok (.ifCond .eq 12, 3) := by decide +kernel
theorem dX12_saw_32 : decode cX12_saw 32 = .ok (.iload_n 1, 1) := by decide +kernel
theorem dX12_saw_33 : decode cX12_saw 33 = .ok (.iload_n 3, 1) := by decide +kernel
theorem dX12_saw_34 : decode cX12_saw 34 = .ok (.iload_n 2, 1) := by decide +kernel
theorem dX12_saw_35 : decode cX12_saw 35 = .ok (.invokestatic 472, 3) := by decide +kernel
theorem dX12_saw_38 : decode cX12_saw 38 = .ok (.goto 9, 3) := by decide +kernel
theorem dX12_saw_41 : decode cX12_saw 41 = .ok (.iload_n 1, 1) := by decide +kernel
theorem dX12_saw_42 : decode cX12_saw 42 = .ok (.iload_n 2, 1) := by decide +kernel
theorem dX12_saw_43 : decode cX12_saw 43 = .ok (.iload_n 3, 1) := by decide +kernel
theorem dX12_saw_44 : decode cX12_saw 44 = .ok (.invokestatic 472, 3) := by decide +kernel
theorem dX12_saw_47 : decode cX12_saw 47 = .ok (.invokevirtual 49, 3) := by decide +kernel
theorem dX12_saw_50 : decode cX12_saw 50 = .ok (.ireturn, 1) := by decide +kernel
theorem dX12_isRest_0 : decode cX12_isRest 0 = .ok (.iload_n 1, 1) := by decide +kernel
theorem dX12_isRest_1 : decode cX12_isRest 1 = .ok (.iconst 1, 1) := by decide +kernel
theorem dX12_isRest_2 : decode cX12_isRest 2 = .ok (.if_icmp .le 7, 3) := by decide +kernel
theorem dX12_isRest_5 : decode cX12_isRest 5 = .ok (.iconst 1, 1) := by decide +kernel
theorem dX12_isRest_6 : decode cX12_isRest 6 = .ok (.goto 4, 3) := by decide +kernel
theorem dX12_isRest_9 : decode cX12_isRest 9 = .ok (.iconst 0, 1) := by decide +kernel
theorem dX12_isRest_10 : decode cX12_isRest 10 = .ok (.istore_n 2, 1) := by decide +kernel
theorem dX12_isRest_11 : decode cX12_isRest 11 = .ok (.iload_n 1, 1) := by decide +kernel
theorem dX12_isRest_12 : decode cX12_isRest 12 = .ok (.iconst 2, 1) := by decide +kernel
theorem dX12_isRest_13 : decode cX12_isRest 13 = .ok (.irem, 1) := by decide +kernel
theorem dX12_isRest_14 : decode cX12_isRest 14 = .ok (.iconst 1, 1) := by decide +kernel
theorem dX12_isRest_15 : decode cX12_isRest 15 = .ok (.if_icmp .ne 7, 3) := by decide +kernel
theorem dX12_isRest_18 : decode cX12_isRest 18 = .ok (.iconst 1, 1) := by decide +kernel
theorem dX12_isRest_19 : decode cX12_isRest 19 = .ok (.goto 4, 3) := by decide +kernel
theorem dX12_isRest_22 : decode cX12_isRest 22 = .ok (.iconst 0, 1) := by decide +kernel
theorem dX12_isRest_23 : decode cX12_isRest 23 = .ok (.istore_n 3, 1) := by decide +kernel
theorem dX12_isRest_24 : decode cX12_isRest 24 = .ok (.iload_n 0, 1) := by decide +kernel
theorem dX12_isRest_25 : decode cX12_isRest 25 = .ok (.iload_n 2, 1) := by decide +kernel
theorem dX12_isRest_26 : decode cX12_isRest 26 = .ok (.ifCond .ne 7, 3) := by decide +kernel
theorem dX12_isRest_29 : decode cX12_isRest 29 = .ok (.iconst 1, 1) := by decide +kernel
theorem dX12_isRest_30 : decode cX12_isRest 30 = .ok (.goto 4, 3) := by decide +kernel
theorem dX12_isRest_33 : decode cX12_isRest 33 = .ok (.iconst 0, 1) := by decide +kernel
theorem dX12_isRest_34 : decode cX12_isRest 34 = .ok (.iload_n 3, 1) := by decide +kernel
theorem dX12_isRest_35 : decode cX12_isRest 35 = .ok (.invokestatic 472, 3) := by decide +kernel
theorem dX12_isRest_38 : decode cX12_isRest 38 = .ok (.iload_n 0, 1) := by decide +kernel
theorem dX12_isRest_39 : decode cX12_isRest 39 = .ok (.iload_n 2, 1) := by decide +kernel
theorem dX12_isRest_40 : decode cX12_isRest 40 = .ok (.iload_n 3, 1) := by decide +kernel
theorem dX12_isRest_41 : decode cX12_isRest 41 = .ok (.invokestatic 472, 3) := by decide +kernel
theorem dX12_isRest_44 : decode cX12_isRest 44 = .ok (.if_icmp .gt 30, 3) := by decide +kernel
theorem dX12_isRest_47 : decode cX12_isRest 47 = .ok (.iload_n 0, 1) := by decide +kernel
theorem dX12_isRest_48 : decode cX12_isRest 48 = .ok (.iload_n 3, 1) := by decide +kernel
theorem dX12_isRest_49 : decode cX12_isRest 49 = .ok (.ifCond .ne 7, 3) := by decide +kernel
theorem dX12_isRest_52 : decode cX12_isRest 52 = .ok (.iconst 1, 1) := by decide +kernel
theorem dX12_isRest_53 : decode cX12_isRest 53 = .ok (.goto 4, 3) := by decide +kernel
theorem dX12_isRest_56 : decode cX12_isRest 56 = .ok (.iconst 0, 1) := by decide +kernel
theorem dX12_isRest_57 : decode cX12_isRest 57 = .ok (.iload_n 2, 1) := by decide +kernel
theorem dX12_isRest_58 : decode cX12_isRest 58 = .ok (.invokestatic 472, 3) := by decide +kernel
theorem dX12_isRest_61 : decode cX12_isRest 61 = .ok (.iload_n 0, 1) := by decide +kernel
theorem dX12_isRest_62 : decode cX12_isRest 62 = .ok (.iload_n 3, 1) := by decide +kernel
theorem dX12_isRest_63 : decode cX12_isRest 63 = .ok (.iload_n 2, 1) := by decide +kernel
theorem dX12_isRest_64 : decode cX12_isRest 64 = .ok (.invokestatic 472, 3) := by decide +kernel
theorem dX12_isRest_67 : decode cX12_isRest 67 = .ok (.if_icmp .gt 7, 3) := by decide +kernel
theorem dX12_isRest_70 : decode cX12_isRest 70 = .ok (.iconst 1, 1) := by decide +kernel
theorem dX12_isRest_71 : decode cX12_isRest 71 = .ok (.goto 4, 3) := by decide +kernel
theorem dX12_isRest_74 : decode cX12_isRest 74 = .ok (.iconst 0, 1) := by decide +kernel
theorem dX12_isRest_75 : decode cX12_isRest 75 = .ok (.ireturn, 1) := by decide +kernel
theorem dX12_rests_0 : decode cX12_rests 0 = .ok (.aload_n 0, 1) := by decide +kernel
theorem dX12_rests_1 : decode cX12_rests 1 = .ok (.iconst 0, 1) := by decide +kernel
theorem dX12_rests_2 : decode cX12_rests 2 = .ok (.putfield 39, 3) := by decide +kernel
theorem dX12_rests_5 : decode cX12_rests 5 = .ok (.aload_n 0, 1) := by decide +kernel
theorem dX12_rests_6 : decode cX12_rests 6 = .ok (.iload_n 1, 1) := by decide +kernel
theorem dX12_rests_7 : decode cX12_rests 7 = .ok (.invokevirtual 466, 3) := by decide +kernel
theorem dX12_rests_10 : decode cX12_rests 10 = .ok (.istore_n 2, 1) := by decide +kernel
theorem dX12_rests_11 : decode cX12_rests 11 = .ok (.iload_n 2, 1) := by decide +kernel
theorem dX12_rests_12 : decode cX12_rests 12 = .ok (.ifCond .le 9, 3) := by decide +kernel
theorem dX12_rests_15 : decode cX12_rests 15 = .ok (.aload_n 0, 1) := by decide +kernel
theorem dX12_rests_16 : decode cX12_rests 16 = .ok (.iload_n 2, 1) := by decide +kernel
theorem dX12_rests_17 : decode cX12_rests 17 = .ok (.invokevirtual 45, 3) := by decide +kernel
theorem dX12_rests_20 : decode cX12_rests 20 = .ok (.ireturn, 1) := by decide +kernel
theorem dX12_rests_21 : decode cX12_rests 21 = .ok (.iconst 0, 1) := by decide +kernel
theorem dX12_rests_22 : decode cX12_rests 22 = .ok (.istore_n 3, 1) := by decide +kernel
theorem dX12_rests_23 : decode cX12_rests 23 = .ok (.iconst 0, 1) := by decide +kernel
theorem dX12_rests_24 : decode cX12_rests 24 = .ok (.istore 4, 2) := by decide +kernel
theorem dX12_rests_26 : decode cX12_rests 26 = .ok (.iload 4, 2) := by decide +kernel
theorem dX12_rests_28 : decode cX12_rests 28 = .ok (.iconst 4, 1) := by decide +kernel
theorem dX12_rests_29 : decode cX12_rests 29 = .ok (.if_icmp .ge 26, 3) := by decide +kernel
theorem dX12_rests_32 : decode cX12_rests 32 = .ok (.iload_n 3, 1) := by decide +kernel
theorem dX12_rests_33 : decode cX12_rests 33 = .ok (.iload_n 1, 1) := by decide +kernel
theorem dX12_rests_34 : decode cX12_rests 34 = .ok (.iload 4, 2) := by decide +kernel
theorem dX12_rests_36 : decode cX12_rests 36 = .ok (.invokestatic 476, 3) := by decide +kernel
theorem dX12_rests_39 : decode cX12_rests 39 = .ok (.ifCond .eq 7, 3) := by decide +kernel
theorem dX12_rests_42 : decode cX12_rests 42 = .ok (.iconst 1, 1) := by decide +kernel
theorem dX12_rests_43 : decode cX12_rests 43 = .ok (.goto 4, 3) := by decide +kernel
theorem dX12_rests_46 : decode cX12_rests 46 = .ok (.iconst 0, 1) := by decide +kernel
theorem dX12_rests_47 : decode cX12_rests 47 = .ok (.iadd, 1) := by decide +kernel
theorem dX12_rests_48 : decode cX12_rests 48 = .ok (.istore_n 3, 1) := by decide +kernel
theorem dX12_rests_49 : decode cX12_rests 49 = .ok (.iinc 4 1, 3) := by decide +kernel
theorem dX12_rests_52 : decode cX12_rests 52 = .ok (.goto (-26), 3) := by decide +kernel
theorem dX12_rests_55 : decode cX12_rests 55 = .ok (.aload_n 0, 1) := by decide +kernel
theorem dX12_rests_56 : decode cX12_rests 56 = .ok (.iload_n 3, 1) := by decide +kernel
theorem dX12_rests_57 : decode cX12_rests 57 = .ok (.invokevirtual 49, 3) := by decide +kernel
theorem dX12_rests_60 : decode cX12_rests 60 = .ok (.ireturn, 1) := by decide +kernel
theorem dX12_rest_0 : decode cX12_rest 0 = .ok (.aload_n 0, 1) := by decide +kernel
theorem dX12_rest_1 : decode cX12_rest 1 = .ok (.iconst 0, 1) := by decide +kernel
theorem dX12_rest_2 : decode cX12_rest 2 = .ok (.putfield 39, 3) := by decide +kernel
theorem dX12_rest_5 : decode cX12_rest 5 = .ok (.aload_n 0, 1) := by decide +kernel
theorem dX12_rest_6 : decode cX12_rest 6 = .ok (.iload_n 1, 1) := by decide +kernel
theorem dX12_rest_7 : decode cX12_rest 7 = .ok (.invokevirtual 466, 3) := by decide +kernel
theorem dX12_rest_10 : decode cX12_rest 10 = .ok (.istore_n 2, 1) := by decide +kernel
theorem dX12_rest_11 : decode cX12_rest 11 = .ok (.iload_n 2, 1) := by decide +kernel
theorem dX12_rest_12 : decode cX12_rest 12 = .ok (.ifCond .le 9, 3) := by decide +kernel
theorem dX12_rest_15 : decode cX12_rest 15 = .ok (.aload_n 0, 1) := by decide +kernel
theorem dX12_rest_16 : decode cX12_rest 16 = .ok (.iload_n 2, 1) := by decide +kernel
theorem dX12_rest_17 : decode cX12_rest 17 = .ok (.invokevirtual 45, 3) := by decide +kernel
theorem dX12_rest_20 : decode cX12_rest 20 = .ok (.ireturn, 1) := by decide +kernel
theorem dX12_rest_21 : decode cX12_rest 21 = .ok (.iconst 0, 1) := by decide +kernel
theorem dX12_rest_22 : decode cX12_rest 22 = .ok (.istore_n 3, 1) := by decide +kernel
theorem dX12_rest_23 : decode cX12_rest 23 = .ok (.iload_n 3, 1) := by decide +kernel
theorem dX12_rest_24 : decode cX12_rest 24 = .ok (.iconst 4, 1) := by decide +kernel
theorem dX12_rest_25 : decode cX12_rest 25 = .ok (.if_icmp .ge 32, 3) := by decide +kernel
theorem dX12_rest_28 : decode cX12_rest 28 = .ok (.iload_n 1, 1) := by decide +kernel
theorem dX12_rest_29 : decode cX12_rest 29 = .ok (.iload_n 3, 1) := by decide +kernel
theorem dX12_rest_30 : decode cX12_rest 30 = .ok (.invokestatic 476, 3) := by decide +kernel
theorem dX12_rest_33 : decode cX12_rest 33 = .ok (.ifCond .eq 18, 3) := by decide +kernel
theorem dX12_rest_36 : decode cX12_rest 36 = .ok (.aload_n 0, 1) := by decide +kernel
theorem dX12_rest_37 : decode cX12_rest 37 = .ok (.bipush 10, 2) := by decide +kernel
theorem dX12_rest_39 : decode cX12_rest 39 = .ok (.iload_n 3, 1) := by decide +kernel
theorem dX12_rest_40 : decode cX12_rest 40 = .ok (.iconst 2, 1) := by decide +kernel
theorem dX12_rest_41 : decode cX12_rest 41 = .ok (.idiv, 1) := by decide +kernel
theorem dX12_rest_42 : decode cX12_rest 42 = .ok (.imul, 1) := by decide +kernel
theorem dX12_rest_43 : decode cX12_rest 43 = .ok (.iload_n 3, 1) := by decide +kernel
theorem dX12_rest_44 : decode cX12_rest 44 = .ok (.iconst 2, 1) := by decide +kernel
theorem dX12_rest_45 : decode cX12_rest 45 = .ok (.irem, 1) := by decide +kernel
theorem dX12_rest_46 : decode cX12_rest 46 = .ok (.iadd, 1) := by decide +kernel
theorem dX12_rest_47 : decode cX12_rest 47 = .ok (.invokevirtual 49, 3) := by decide +kernel
theorem dX12_rest_50 : decode cX12_rest 50 = .ok (.ireturn, 1) := by decide +kernel
theorem dX12_rest_51 : decode cX12_rest 51 = .ok (.iinc 3 1, 3) := by decide +kernel
theorem dX12_rest_54 : decode cX12_rest 54 = .ok (.goto (-31), 3) := by decide +kernel
theorem dX12_rest_57 : decode cX12_rest 57 = .ok (.aload_n 0, 1) := by decide +kernel
theorem dX12_rest_58 : decode cX12_rest 58 = .ok (.bipush (-2), 2) := by decide +kernel
theorem dX12_rest_60 : decode cX12_rest 60 = .ok (.invokevirtual 49, 3) := by decide +kernel
theorem dX12_rest_63 : decode cX12_rest 63 = .ok (.ireturn, 1) := by decide +kernel
theorem dX12_yearOf_0 : decode cX12_yearOf 0 = .ok (.aload_n 0, 1) := by decide +kernel
theorem dX12_yearOf_1 : decode cX12_yearOf 1 = .ok (.getfield 21, 3) := by decide +kernel
theorem dX12_yearOf_4 : decode cX12_yearOf 4 = .ok (.bipush 25, 2) := by decide +kernel
theorem dX12_yearOf_6 : decode cX12_yearOf 6 = .ok (.iload_n 1, 1) := by decide +kernel
theorem dX12_yearOf_7 : decode cX12_yearOf 7 = .ok (.iadd, 1) := by decide +kernel
theorem dX12_yearOf_8 : decode cX12_yearOf 8 = .ok (.dup2, 1) := by decide +kernel
theorem dX12_yearOf_9 : decode cX12_yearOf 9 = .ok (.iaload, 1) := by decide +kernel
theorem dX12_yearOf_10 : decode cX12_yearOf 10 = .ok (.iconst 1, 1) := by decide +kernel
theorem dX12_yearOf_11 : decode cX12_yearOf 11 = .ok (.iadd, 1) := by decide +kernel
theorem dX12_yearOf_12 : decode cX12_yearOf 12 = .ok (.iastore, 1) := by decide +kernel
theorem dX12_yearOf_13 : decode cX12_yearOf 13 = .ok (.iload_n 2, 1) := by decide +kernel
theorem dX12_yearOf_14 : decode cX12_yearOf 14 = .ok (.ifCond .eq 8, 3) := by decide +kernel
theorem dX12_yearOf_17 : decode cX12_yearOf 17 = .ok (.aload_n 0, 1) := by decide +kernel
theorem dX12_yearOf_18 : decode cX12_yearOf 18 = .ok (.iload_n 1, 1) := by decide +kernel
theorem dX12_yearOf_19 : decode cX12_yearOf 19 = .ok (.invokevirtual 479, 3) := by decide +kernel
theorem dX12_yearOf_22 : decode cX12_yearOf 22 = .ok (.return_, 1) := by decide +kernel
theorem dX12_sawsOff_0 : decode cX12_sawsOff 0 = .ok (.aload_n 0, 1) := by decide +kernel
theorem dX12_sawsOff_1 : decode cX12_sawsOff 1 = .ok (.iload_n 1, 1) := by decide +kernel
theorem dX12_sawsOff_2 : decode cX12_sawsOff 2 = .ok (.invokevirtual 321, 3) := by decide +kernel
theorem dX12_sawsOff_5 : decode cX12_sawsOff 5 = .ok (.istore_n 2, 1) := by decide +kernel
theorem dX12_sawsOff_6 : decode cX12_sawsOff 6 = .ok (.aload_n 0, 1) := by decide +kernel
theorem dX12_sawsOff_7 : decode cX12_sawsOff 7 = .ok (.getfield 21, 3) := by decide +kernel
theorem dX12_sawsOff_10 : decode cX12_sawsOff 10 = .ok (.bipush 45, 2) := by decide +kernel
theorem dX12_sawsOff_12 : decode cX12_sawsOff 12 = .ok (.iload_n 1, 1) := by decide +kernel
theorem dX12_sawsOff_13 : decode cX12_sawsOff 13 = .ok (.iadd, 1) := by decide +kernel
theorem dX12_sawsOff_14 : decode cX12_sawsOff 14 = .ok (.iaload, 1) := by decide +kernel
theorem dX12_sawsOff_15 : decode cX12_sawsOff 15 = .ok (.iconst 2, 1) := by decide +kernel
theorem dX12_sawsOff_16 : decode cX12_sawsOff 16 = .ok (.if_icmp .eq 37, 3) := by decide +kernel
theorem dX12_sawsOff_19 : decode cX12_sawsOff 19 = .ok (.aload_n 0, 1) := by decide +kernel
theorem dX12_sawsOff_20 : decode cX12_sawsOff 20 = .ok (.getfield 21, 3) := by decide +kernel
theorem dX12_sawsOff_23 : decode cX12_sawsOff 23 = .ok (.bipush 35, 2) := by decide +kernel
theorem dX12_sawsOff_25 : decode cX12_sawsOff 25 = .ok (.iload_n 1, 1) := by decide +kernel
theorem dX12_sawsOff_26 : decode cX12_sawsOff 26 = .ok (.iadd, 1) := by decide +kernel
theorem dX12_sawsOff_27 : decode cX12_sawsOff 27 = .ok (.dup2, 1) := by decide +kernel
theorem dX12_sawsOff_28 : decode cX12_sawsOff 28 = .ok (.iaload, 1) := by decide +kernel
theorem dX12_sawsOff_29 : decode cX12_sawsOff 29 = .ok (.iload_n 2, 1) := by decide +kernel
theorem dX12_sawsOff_30 : decode cX12_sawsOff 30 = .ok (.aload_n 0, 1) := by decide +kernel
theorem dX12_sawsOff_31 : decode cX12_sawsOff 31 = .ok (.getfield 298, 3) := by decide +kernel
theorem dX12_sawsOff_34 : decode cX12_sawsOff 34 = .ok (.getfield 211, 3) := by decide +kernel
theorem dX12_sawsOff_37 : decode cX12_sawsOff 37 = .ok (.if_icmp .ge 7, 3) := by decide +kernel
theorem dX12_sawsOff_40 : decode cX12_sawsOff 40 = .ok (.iload_n 2, 1) := by decide +kernel
theorem dX12_sawsOff_41 : decode cX12_sawsOff 41 = .ok (.goto 10, 3) := by decide +kernel
theorem dX12_sawsOff_44 : decode cX12_sawsOff 44 = .ok (.aload_n 0, 1) := by decide +kernel
theorem dX12_sawsOff_45 : decode cX12_sawsOff 45 = .ok (.getfield 298, 3) := by decide +kernel
theorem dX12_sawsOff_48 : decode cX12_sawsOff 48 = .ok (.getfield 211, 3) := by decide +kernel
theorem dX12_sawsOff_51 : decode cX12_sawsOff 51 = .ok (.iadd, 1) := by decide +kernel
theorem dX12_sawsOff_52 : decode cX12_sawsOff 52 = .ok (.iastore, 1) := by decide +kernel
theorem dX12_sawsOff_53 : decode cX12_sawsOff 53 = .ok (.return_, 1) := by decide +kernel
theorem dX12_partOf_0 : decode cX12_partOf 0 = .ok (.lconst 1, 1) := by decide +kernel
theorem dX12_partOf_1 : decode cX12_partOf 1 = .ok (.lstore 4, 2) := by decide +kernel
theorem dX12_partOf_3 : decode cX12_partOf 3 = .ok (.aload_n 0, 1) := by decide +kernel
theorem dX12_partOf_4 : decode cX12_partOf 4 = .ok (.invokevirtual 333, 3) := by decide +kernel
theorem dX12_partOf_7 : decode cX12_partOf 7 = .ok (.iconst 0, 1) := by decide +kernel
theorem dX12_partOf_8 : decode cX12_partOf 8 = .ok (.istore 6, 2) := by decide +kernel
theorem dX12_partOf_10 : decode cX12_partOf 10 = .ok (.iload 6, 2) := by decide +kernel
theorem dX12_partOf_12 : decode cX12_partOf 12 = .ok (.iload_n 2, 1) := by decide +kernel
theorem dX12_partOf_13 : decode cX12_partOf 13 = .ok (.if_icmp .ge 56, 3) := by decide +kernel
theorem dX12_partOf_16 : decode cX12_partOf 16 = .ok (.aload_n 0, 1) := by decide +kernel
theorem dX12_partOf_17 : decode cX12_partOf 17 = .ok (.iload_n 1, 1) := by decide +kernel
theorem dX12_partOf_18 : decode cX12_partOf 18 = .ok (.iload_n 3, 1) := by decide +kernel
theorem dX12_partOf_19 : decode cX12_partOf 19 = .ok (.iload 6, 2) := by decide +kernel
theorem dX12_partOf_21 : decode cX12_partOf 21 = .ok (.invokestatic 237, 3) := by decide +kernel
theorem dX12_partOf_24 : decode cX12_partOf 24 = .ok (.invokevirtual 482, 3) := by decide +kernel
theorem dX12_partOf_27 : decode cX12_partOf 27 = .ok (.lload 4, 2) := by decide +kernel
theorem dX12_partOf_29 : decode cX12_partOf 29 = .ok (.iload_n 3, 1) := by decide +kernel
theorem dX12_partOf_30 : decode cX12_partOf 30 = .ok (.iload 6, 2) := by decide +kernel
theorem dX12_partOf_32 : decode cX12_partOf 32 = .ok (.invokestatic 237, 3) := by decide +kernel
theorem dX12_partOf_35 : decode cX12_partOf 35 = .ok (.ifCond .eq 14, 3) := by decide +kernel
theorem dX12_partOf_38 : decode cX12_partOf 38 = .ok (.aload_n 0, 1) := by decide +kernel
theorem dX12_partOf_39 : decode cX12_partOf 39 = .ok (.getfield 298, 3) := by decide +kernel
theorem dX12_partOf_42 : decode cX12_partOf 42 = .ok (.getfield 213, 3) := by decide +kernel
theorem dX12_partOf_45 : decode cX12_partOf 45 = .ok (.i2l, 1) := by decide +kernel
theorem dX12_partOf_46 : decode cX12_partOf 46 = .ok (.goto 14, 3) := by decide +kernel
theorem dX12_partOf_49 : decode cX12_partOf 49 = .ok (.bipush 100, 2) := by decide +kernel
theorem dX12_partOf_51 : decode cX12_partOf 51 = .ok (.aload_n 0, 1) := by decide +kernel
theorem dX12_partOf_52 : decode cX12_partOf 52 = .ok (.getfield 298, 3) := by decide +kernel
theorem dX12_partOf_55 : decode cX12_partOf 55 = .ok (.getfield 213, 3) := by decide +kernel
theorem dX12_partOf_58 : decode cX12_partOf 58 = .ok (.isub, 1) := by decide +kernel
theorem dX12_partOf_59 : decode cX12_partOf 59 = .ok (.i2l, 1) := by decide +kernel
theorem dX12_partOf_60 : decode cX12_partOf 60 = .ok (.lmul, 1) := by decide +kernel
theorem dX12_partOf_61 : decode cX12_partOf 61 = .ok (.lstore 4, 2) := by decide +kernel
theorem dX12_partOf_63 : decode cX12_partOf 63 = .ok (.iinc 6 1, 3) := by decide +kernel
theorem dX12_partOf_66 : decode cX12_partOf 66 = .ok (.goto (-56), 3) := by decide +kernel
theorem dX12_partOf_69 : decode cX12_partOf 69 = .ok (.lload 4, 2) := by decide +kernel
theorem dX12_partOf_71 : decode cX12_partOf 71 = .ok (.lreturn, 1) := by decide +kernel
theorem dX12_whole_0 : decode cX12_whole 0 = .ok (.lconst 1, 1) := by decide +kernel
theorem dX12_whole_1 : decode cX12_whole 1 = .ok (.lstore_n 1, 1) := by decide +kernel
theorem dX12_whole_2 : decode cX12_whole 2 = .ok (.iconst 0, 1) := by decide +kernel
theorem dX12_whole_3 : decode cX12_whole 3 = .ok (.istore_n 3, 1) := by decide +kernel
theorem dX12_whole_4 : decode cX12_whole 4 = .ok (.iload_n 3, 1) := by decide +kernel
theorem dX12_whole_5 : decode cX12_whole 5 = .ok (.iload_n 0, 1) := by decide +kernel
theorem dX12_whole_6 : decode cX12_whole 6 = .ok (.if_icmp .ge 15, 3) := by decide +kernel
theorem dX12_whole_9 : decode cX12_whole 9 = .ok (.lload_n 1, 1) := by decide +kernel
theorem dX12_whole_10 : decode cX12_whole 10 = .ok (.ldc2_w 486, 3) := by decide +kernel
theorem dX12_whole_13 : decode cX12_whole 13 = .ok (.lmul, 1) := by decide +kernel
theorem dX12_whole_14 : decode cX12_whole 14 = .ok (.lstore_n 1, 1) := by decide +kernel
theorem dX12_whole_15 : decode cX12_whole 15 = .ok (.iinc 3 1, 3) := by decide +kernel
theorem dX12_whole_18 : decode cX12_whole 18 = .ok (.goto (-14), 3) := by decide +kernel
theorem dX12_whole_21 : decode cX12_whole 21 = .ok (.lload_n 1, 1) := by decide +kernel
theorem dX12_whole_22 : decode cX12_whole 22 = .ok (.lreturn, 1) := by decide +kernel
theorem dX12_refusesChance_0 : decode cX12_refusesChance 0 = .ok (.aload_n 0, 1) := by decide +kernel
theorem dX12_refusesChance_1 : decode cX12_refusesChance 1 = .ok (.iload_n 1, 1) := by decide +kernel
theorem dX12_refusesChance_2 : decode cX12_refusesChance 2 = .ok (.invokevirtual 330, 3) := by decide +kernel
theorem dX12_refusesChance_5 : decode cX12_refusesChance 5 = .ok (.ifCond .ne 7, 3) := by decide +kernel
theorem dX12_refusesChance_8 : decode cX12_refusesChance 8 = .ok (.iconst 1, 1) := by decide +kernel
theorem dX12_refusesChance_9 : decode cX12_refusesChance 9 = .ok (.goto 18, 3) := by decide +kernel
theorem dX12_refusesChance_12 : decode cX12_refusesChance 12 = .ok (.iload_n 2, 1) := by decide +kernel
theorem dX12_refusesChance_13 : decode cX12_refusesChance 13 = .ok (.iconst 0, 1) := by decide +kernel
theorem dX12_refusesChance_14 : decode cX12_refusesChance 14 = .ok (.bipush 8, 2) := by decide +kernel
theorem dX12_refusesChance_16 : decode cX12_refusesChance 16 = .ok (.invokestatic 118, 3) := by decide +kernel
theorem dX12_refusesChance_19 : decode cX12_refusesChance 19 = .ok (.ifCond .eq 7, 3) := by decide +kernel
theorem dX12_refusesChance_22 : decode cX12_refusesChance 22 = .ok (.iconst 0, 1) := by decide +kernel
theorem dX12_refusesChance_23 : decode cX12_refusesChance 23 = .ok (.goto 4, 3) := by decide +kernel
theorem dX12_refusesChance_26 : decode cX12_refusesChance 26 = .ok (.iconst 2, 1) := by decide +kernel
theorem dX12_refusesChance_27 : decode cX12_refusesChance 27 = .ok (.ireturn, 1) := by decide +kernel
theorem dX12_odds_0 : decode cX12_odds 0 = .ok (.aload_n 0, 1) := by decide +kernel
theorem dX12_odds_1 : decode cX12_odds 1 = .ok (.iconst 0, 1) := by decide +kernel
theorem dX12_odds_2 : decode cX12_odds 2 = .ok (.putfield 39, 3) := by decide +kernel
theorem dX12_odds_5 : decode cX12_odds 5 = .ok (.aload_n 0, 1) := by decide +kernel
theorem dX12_odds_6 : decode cX12_odds 6 = .ok (.iload_n 1, 1) := by decide +kernel
theorem dX12_odds_7 : decode cX12_odds 7 = .ok (.iload_n 2, 1) := by decide +kernel
theorem dX12_odds_8 : decode cX12_odds 8 = .ok (.invokevirtual 488, 3) := by decide +kernel
theorem dX12_odds_11 : decode cX12_odds 11 = .ok (.istore 4, 2) := by decide +kernel
theorem dX12_odds_13 : decode cX12_odds 13 = .ok (.iload 4, 2) := by decide +kernel
theorem dX12_odds_15 : decode cX12_odds 15 = .ok (.ifCond .le 11, 3) := by decide +kernel
theorem dX12_odds_18 : decode cX12_odds 18 = .ok (.aload_n 0, 1) := by decide +kernel
theorem dX12_odds_19 : decode cX12_odds 19 = .ok (.iload 4, 2) := by decide +kernel
theorem dX12_odds_21 : decode cX12_odds 21 = .ok (.invokevirtual 45, 3) := by decide +kernel
theorem dX12_odds_24 : decode cX12_odds 24 = .ok (.i2l, 1) := by decide +kernel
theorem dX12_odds_25 : decode cX12_odds 25 = .ok (.lreturn, 1) := by decide +kernel
theorem dX12_odds_26 : decode cX12_odds 26 = .ok (.lconst 0, 1) := by decide +kernel
theorem dX12_odds_27 : decode cX12_odds 27 = .ok (.lstore 5, 2) := by decide +kernel
theorem dX12_odds_29 : decode cX12_odds 29 = .ok (.iconst 0, 1) := by decide +kernel
theorem dX12_odds_30 : decode cX12_odds 30 = .ok (.istore 7, 2) := by decide +kernel
theorem dX12_odds_32 : decode cX12_odds 32 = .ok (.iload 7, 2) := by decide +kernel
theorem dX12_odds_34 : decode cX12_odds 34 = .ok (.iconst 1, 1) := by decide +kernel
theorem dX12_odds_35 : decode cX12_odds 35 = .ok (.iload_n 2, 1) := by decide +kernel
theorem dX12_odds_36 : decode cX12_odds 36 = .ok (.ishl, 1) := by decide +kernel
theorem dX12_odds_37 : decode cX12_odds 37 = .ok (.if_icmp .ge 38, 3) := by decide +kernel
theorem dX12_odds_40 : decode cX12_odds 40 = .ok (.aload_n 0, 1) := by decide +kernel
theorem dX12_odds_41 : decode cX12_odds 41 = .ok (.iload_n 1, 1) := by decide +kernel
theorem dX12_odds_42 : decode cX12_odds 42 = .ok (.iload_n 2, 1) := by decide +kernel
theorem dX12_odds_43 : decode cX12_odds 43 = .ok (.iload 7, 2) := by decide +kernel
theorem dX12_odds_45 : decode cX12_odds 45 = .ok (.invokevirtual 491, 3) := by decide +kernel
theorem dX12_odds_48 : decode cX12_odds 48 = .ok (.lstore 8, 2) := by decide +kernel
theorem dX12_odds_50 : decode cX12_odds 50 = .ok (.lload 5, 2) := by decide +kernel
theorem dX12_odds_52 : decode cX12_odds 52 = .ok (.aload_n 0, 1) := by decide +kernel
theorem dX12_odds_53 : decode cX12_odds 53 = .ok (.iload_n 1, 1) := by decide +kernel
theorem dX12_odds_54 : decode cX12_odds 54 = .ok (.invokevirtual 336, 3) := by decide +kernel
theorem dX12_odds_57 : decode cX12_odds 57 = .ok (.ifCond .eq 8, 3) := by decide +kernel
theorem dX12_odds_60 : decode cX12_odds 60 = .ok (.lload 8, 2) := by decide +kernel
theorem dX12_odds_62 : decode cX12_odds 62 = .ok (.goto 4, 3) := by decide +kernel
theorem dX12_odds_65 : decode cX12_odds 65 = .ok (.lconst 0, 1) := by decide +kernel
theorem dX12_odds_66 : decode cX12_odds 66 = .ok (.ladd, 1) := by decide +kernel
theorem dX12_odds_67 : decode cX12_odds 67 = .ok (.lstore 5, 2) := by decide +kernel
theorem dX12_odds_69 : decode cX12_odds 69 = .ok (.iinc 7 1, 3) := by decide +kernel
theorem dX12_odds_72 : decode cX12_odds 72 = .ok (.goto (-40), 3) := by decide +kernel
theorem dX12_odds_75 : decode cX12_odds 75 = .ok (.aload_n 0, 1) := by decide +kernel
theorem dX12_odds_76 : decode cX12_odds 76 = .ok (.lload 5, 2) := by decide +kernel
theorem dX12_odds_78 : decode cX12_odds 78 = .ok (.iload_n 2, 1) := by decide +kernel
theorem dX12_odds_79 : decode cX12_odds 79 = .ok (.invokestatic 495, 3) := by decide +kernel
theorem dX12_odds_82 : decode cX12_odds 82 = .ok (.iload_n 3, 1) := by decide +kernel
theorem dX12_odds_83 : decode cX12_odds 83 = .ok (.invokevirtual 499, 3) := by decide +kernel
theorem dX12_odds_86 : decode cX12_odds 86 = .ok (.lreturn, 1) := by decide +kernel
theorem dX12_mean_0 : decode cX12_mean 0 = .ok (.aload_n 0, 1) := by decide +kernel
theorem dX12_mean_1 : decode cX12_mean 1 = .ok (.iconst 0, 1) := by decide +kernel
theorem dX12_mean_2 : decode cX12_mean 2 = .ok (.putfield 39, 3) := by decide +kernel
theorem dX12_mean_5 : decode cX12_mean 5 = .ok (.aload_n 0, 1) := by decide +kernel
theorem dX12_mean_6 : decode cX12_mean 6 = .ok (.iload_n 1, 1) := by decide +kernel
theorem dX12_mean_7 : decode cX12_mean 7 = .ok (.iload_n 2, 1) := by decide +kernel
theorem dX12_mean_8 : decode cX12_mean 8 = .ok (.invokevirtual 488, 3) := by decide +kernel
theorem dX12_mean_11 : decode cX12_mean 11 = .ok (.istore 4, 2) := by decide +kernel
theorem dX12_mean_13 : decode cX12_mean 13 = .ok (.iload 4, 2) := by decide +kernel
theorem dX12_mean_15 : decode cX12_mean 15 = .ok (.ifCond .le 11, 3) := by decide +kernel
theorem dX12_mean_18 : decode cX12_mean 18 = .ok (.aload_n 0, 1) := by decide +kernel
theorem dX12_mean_19 : decode cX12_mean 19 = .ok (.iload 4, 2) := by decide +kernel
theorem dX12_mean_21 : decode cX12_mean 21 = .ok (.invokevirtual 45, 3) := by decide +kernel
theorem dX12_mean_24 : decode cX12_mean 24 = .ok (.i2l, 1) := by decide +kernel
theorem dX12_mean_25 : decode cX12_mean 25 = .ok (.lreturn, 1) := by decide +kernel
theorem dX12_mean_26 : decode cX12_mean 26 = .ok (.aload_n 0, 1) := by decide +kernel
theorem dX12_mean_27 : decode cX12_mean 27 = .ok (.invokevirtual 333, 3) := by decide +kernel
theorem dX12_mean_30 : decode cX12_mean 30 = .ok (.aload_n 0, 1) := by decide +kernel
theorem dX12_mean_31 : decode cX12_mean 31 = .ok (.iload_n 1, 1) := by decide +kernel
theorem dX12_mean_32 : decode cX12_mean 32 = .ok (.invokevirtual 321, 3) := by decide +kernel
theorem dX12_mean_35 : decode cX12_mean 35 = .ok (.sipush 900, 3) := by decide +kernel
theorem dX12_mean_38 : decode cX12_mean 38 = .ok (.if_icmp .le 10, 3) := by decide +kernel
theorem dX12_mean_41 : decode cX12_mean 41 = .ok (.aload_n 0, 1) := by decide +kernel
theorem dX12_mean_42 : decode cX12_mean 42 = .ok (.iconst 3, 1) := by decide +kernel
theorem dX12_mean_43 : decode cX12_mean 43 = .ok (.invokevirtual 45, 3) := by decide +kernel
theorem dX12_mean_46 : decode cX12_mean 46 = .ok (.i2l, 1) := by decide +kernel
theorem dX12_mean_47 : decode cX12_mean 47 = .ok (.lreturn, 1) := by decide +kernel
theorem dX12_mean_48 : decode cX12_mean 48 = .ok (.lconst 0, 1) := by decide +kernel
theorem dX12_mean_49 : decode cX12_mean 49 = .ok (.lstore 5, 2) := by decide +kernel
theorem dX12_mean_51 : decode cX12_mean 51 = .ok (.iconst 0, 1) := by decide +kernel
theorem dX12_mean_52 : decode cX12_mean 52 = .ok (.istore 7, 2) := by decide +kernel
theorem dX12_mean_54 : decode cX12_mean 54 = .ok (.iload 7, 2) := by decide +kernel
theorem dX12_mean_56 : decode cX12_mean 56 = .ok (.iconst 1, 1) := by decide +kernel
theorem dX12_mean_57 : decode cX12_mean 57 = .ok (.iload_n 2, 1) := by decide +kernel
theorem dX12_mean_58 : decode cX12_mean 58 = .ok (.ishl, 1) := by decide +kernel
theorem dX12_mean_59 : decode cX12_mean 59 = .ok (.if_icmp .ge 33, 3) := by decide +kernel
theorem dX12_mean_62 : decode cX12_mean 62 = .ok (.aload_n 0, 1) := by decide +kernel
theorem dX12_mean_63 : decode cX12_mean 63 = .ok (.iload_n 1, 1) := by decide +kernel
theorem dX12_mean_64 : decode cX12_mean 64 = .ok (.iload_n 2, 1) := by decide +kernel
theorem dX12_mean_65 : decode cX12_mean 65 = .ok (.iload 7, 2) := by decide +kernel
theorem dX12_mean_67 : decode cX12_mean 67 = .ok (.invokevirtual 491, 3) := by decide +kernel
theorem dX12_mean_70 : decode cX12_mean 70 = .ok (.lstore 8, 2) := by decide +kernel
theorem dX12_mean_72 : decode cX12_mean 72 = .ok (.lload 5, 2) := by decide +kernel
theorem dX12_mean_74 : decode cX12_mean 74 = .ok (.lload 8, 2) := by decide +kernel
theorem dX12_mean_76 : decode cX12_mean 76 = .ok (.aload_n 0, 1) := by decide +kernel
theorem dX12_mean_77 : decode cX12_mean 77 = .ok (.iload_n 1, 1) := by decide +kernel
theorem dX12_mean_78 : decode cX12_mean 78 = .ok (.invokevirtual 321, 3) := by decide +kernel
theorem dX12_mean_81 : decode cX12_mean 81 = .ok (.i2l, 1) := by decide +kernel
theorem dX12_mean_82 : decode cX12_mean 82 = .ok (.lmul, 1) := by decide +kernel
theorem dX12_mean_83 : decode cX12_mean 83 = .ok (.ladd, 1) := by decide +kernel
theorem dX12_mean_84 : decode cX12_mean 84 = .ok (.lstore 5, 2) := by decide +kernel
theorem dX12_mean_86 : decode cX12_mean 86 = .ok (.iinc 7 1, 3) := by decide +kernel
theorem dX12_mean_89 : decode cX12_mean 89 = .ok (.goto (-35), 3) := by decide +kernel
theorem dX12_mean_92 : decode cX12_mean 92 = .ok (.aload_n 0, 1) := by decide +kernel
theorem dX12_mean_93 : decode cX12_mean 93 = .ok (.lload 5, 2) := by decide +kernel
theorem dX12_mean_95 : decode cX12_mean 95 = .ok (.iload_n 2, 1) := by decide +kernel
theorem dX12_mean_96 : decode cX12_mean 96 = .ok (.invokestatic 495, 3) := by decide +kernel
theorem dX12_mean_99 : decode cX12_mean 99 = .ok (.iload_n 3, 1) := by decide +kernel
theorem dX12_mean_100 : decode cX12_mean 100 = .ok (.invokevirtual 499, 3) := by decide +kernel
theorem dX12_mean_103 : decode cX12_mean 103 = .ok (.lreturn, 1) := by decide +kernel
theorem dX12_draws_0 : decode cX12_draws 0 = .ok (.iload_n 1, 1) := by decide +kernel
theorem dX12_draws_1 : decode cX12_draws 1 = .ok (.istore_n 3, 1) := by decide +kernel
theorem dX12_draws_2 : decode cX12_draws 2 = .ok (.aload_n 0, 1) := by decide +kernel
theorem dX12_draws_3 : decode cX12_draws 3 = .ok (.invokevirtual 333, 3) := by decide +kernel
theorem dX12_draws_6 : decode cX12_draws 6 = .ok (.iconst 0, 1) := by decide +kernel
theorem dX12_draws_7 : decode cX12_draws 7 = .ok (.istore 4, 2) := by decide +kernel
theorem dX12_draws_9 : decode cX12_draws 9 = .ok (.iload 4, 2) := by decide +kernel
theorem dX12_draws_11 : decode cX12_draws 11 = .ok (.iload_n 2, 1) := by decide +kernel
theorem dX12_draws_12 : decode cX12_draws 12 = .ok (.if_icmp .ge 71, 3) := by decide +kernel
theorem dX12_draws_15 : decode cX12_draws 15 = .ok (.iconst 0, 1) := by decide +kernel
theorem dX12_draws_16 : decode cX12_draws 16 = .ok (.istore 5, 2) := by decide +kernel
theorem dX12_draws_18 : decode cX12_draws 18 = .ok (.iload 5, 2) := by decide +kernel
theorem dX12_draws_20 : decode cX12_draws 20 = .ok (.aload_n 0, 1) := by decide +kernel
theorem dX12_draws_21 : decode cX12_draws 21 = .ok (.getfield 21, 3) := by decide +kernel
theorem dX12_draws_24 : decode cX12_draws 24 = .ok (.bipush 55, 2) := by decide +kernel
theorem dX12_draws_26 : decode cX12_draws 26 = .ok (.iaload, 1) := by decide +kernel
theorem dX12_draws_27 : decode cX12_draws 27 = .ok (.if_icmp .ge 50, 3) := by decide +kernel
theorem dX12_draws_30 : decode cX12_draws 30 = .ok (.ldc2_w 503, 3) := by decide +kernel
theorem dX12_draws_33 : decode cX12_draws 33 = .ok (.iload_n 3, 1) := by decide +kernel
theorem dX12_draws_34 : decode cX12_draws 34 = .ok (.i2l, 1) := by decide +kernel
theorem dX12_draws_35 : decode cX12_draws 35 = .ok (.lmul, 1) := by decide +kernel
theorem dX12_draws_36 : decode cX12_draws 36 = .ok (.ldc2_w 505, 3) := by decide +kernel
theorem dX12_draws_39 : decode cX12_draws 39 = .ok (.ladd, 1) := by decide +kernel
theorem dX12_draws_40 : decode cX12_draws 40 = .ok (.ldc2_w 507, 3) := by decide +kernel
theorem dX12_draws_43 : decode cX12_draws 43 = .ok (.lrem, 1) := by decide +kernel
theorem dX12_draws_44 : decode cX12_draws 44 = .ok (.l2i, 1) := by decide +kernel
theorem dX12_draws_45 : decode cX12_draws 45 = .ok (.istore_n 3, 1) := by decide +kernel
theorem dX12_draws_46 : decode cX12_draws 46 = .ok (.aload_n 0, 1) := by decide +kernel
theorem dX12_draws_47 : decode cX12_draws 47 = .ok (.iload 5, 2) := by decide +kernel
theorem dX12_draws_49 : decode cX12_draws 49 = .ok (.iload_n 3, 1) := by decide +kernel
theorem dX12_draws_50 : decode cX12_draws 50 = .ok (.bipush 100, 2) := by decide +kernel
theorem dX12_draws_52 : decode cX12_draws 52 = .ok (.irem, 1) := by decide +kernel
theorem dX12_draws_53 : decode cX12_draws 53 = .ok (.aload_n 0, 1) := by decide +kernel
theorem dX12_draws_54 : decode cX12_draws 54 = .ok (.getfield 298, 3) := by decide +kernel
theorem dX12_draws_57 : decode cX12_draws 57 = .ok (.getfield 213, 3) := by decide +kernel
theorem dX12_draws_60 : decode cX12_draws 60 = .ok (.if_icmp .ge 7, 3) := by decide +kernel
theorem dX12_draws_63 : decode cX12_draws 63 = .ok (.iconst 1, 1) := by decide +kernel
theorem dX12_draws_64 : decode cX12_draws 64 = .ok (.goto 4, 3) := by decide +kernel
theorem dX12_draws_67 : decode cX12_draws 67 = .ok (.iconst 0, 1) := by decide +kernel
theorem dX12_draws_68 : decode cX12_draws 68 = .ok (.invokevirtual 482, 3) := by decide +kernel
theorem dX12_draws_71 : decode cX12_draws 71 = .ok (.iinc 5 1, 3) := by decide +kernel
theorem dX12_draws_74 : decode cX12_draws 74 = .ok (.goto (-56), 3) := by decide +kernel
theorem dX12_draws_77 : decode cX12_draws 77 = .ok (.iinc 4 1, 3) := by decide +kernel
theorem dX12_draws_80 : decode cX12_draws 80 = .ok (.goto (-71), 3) := by decide +kernel
theorem dX12_draws_83 : decode cX12_draws 83 = .ok (.return_, 1) := by decide +kernel
theorem dX12_refusesDraw_0 : decode cX12_refusesDraw 0 = .ok (.iload_n 1, 1) := by decide +kernel
theorem dX12_refusesDraw_1 : decode cX12_refusesDraw 1 = .ok (.ifCond .ne 7, 3) := by decide +kernel
theorem dX12_refusesDraw_4 : decode cX12_refusesDraw 4 = .ok (.iconst 1, 1) := by decide +kernel
theorem dX12_refusesDraw_5 : decode cX12_refusesDraw 5 = .ok (.goto 29, 3) := by decide +kernel
theorem dX12_refusesDraw_8 : decode cX12_refusesDraw 8 = .ok (.iload_n 2, 1) := by decide +kernel
theorem dX12_refusesDraw_9 : decode cX12_refusesDraw 9 = .ok (.iconst 0, 1) := by decide +kernel
theorem dX12_refusesDraw_10 : decode cX12_refusesDraw 10 = .ok (.ldc_w 509, 3) := by decide +kernel
theorem dX12_refusesDraw_13 : decode cX12_refusesDraw 13 = .ok (.invokestatic 118, 3) := by decide +kernel
theorem dX12_refusesDraw_16 : decode cX12_refusesDraw 16 = .ok (.ifCond .eq 17, 3) := by decide +kernel
theorem dX12_refusesDraw_19 : decode cX12_refusesDraw 19 = .ok (.iload_n 3, 1) := by decide +kernel
theorem dX12_refusesDraw_20 : decode cX12_refusesDraw 20 = .ok (.iconst 0, 1) := by decide +kernel
theorem dX12_refusesDraw_21 : decode cX12_refusesDraw 21 = .ok (.bipush 60, 2) := by decide +kernel
theorem dX12_refusesDraw_23 : decode cX12_refusesDraw 23 = .ok (.invokestatic 118, 3) := by decide +kernel
theorem dX12_refusesDraw_26 : decode cX12_refusesDraw 26 = .ok (.ifCond .eq 7, 3) := by decide +kernel
theorem dX12_refusesDraw_29 : decode cX12_refusesDraw 29 = .ok (.iconst 0, 1) := by decide +kernel
theorem dX12_refusesDraw_30 : decode cX12_refusesDraw 30 = .ok (.goto 4, 3) := by decide +kernel
theorem dX12_refusesDraw_33 : decode cX12_refusesDraw 33 = .ok (.iconst 2, 1) := by decide +kernel
theorem dX12_refusesDraw_34 : decode cX12_refusesDraw 34 = .ok (.ireturn, 1) := by decide +kernel
theorem dX12_drawnHandle_0 : decode cX12_drawnHandle 0 = .ok (.aload_n 0, 1) := by decide +kernel
theorem dX12_drawnHandle_1 : decode cX12_drawnHandle 1 = .ok (.iconst 0, 1) := by decide +kernel
theorem dX12_drawnHandle_2 : decode cX12_drawnHandle 2 = .ok (.putfield 39, 3) := by decide +kernel
theorem dX12_drawnHandle_5 : decode cX12_drawnHandle 5 = .ok (.aload_n 0, 1) := by decide +kernel
theorem dX12_drawnHandle_6 : decode cX12_drawnHandle 6 = .ok (.aload_n 0, 1) := by decide +kernel
theorem dX12_drawnHandle_7 : decode cX12_drawnHandle 7 = .ok (.iload_n 1, 1) := by decide +kernel
theorem dX12_drawnHandle_8 : decode cX12_drawnHandle 8 = .ok (.invokevirtual 330, 3) := by decide +kernel
theorem dX12_drawnHandle_11 : decode cX12_drawnHandle 11 = .ok (.iload_n 2, 1) := by decide +kernel
theorem dX12_drawnHandle_12 : decode cX12_drawnHandle 12 = .ok (.iload_n 3, 1) := by decide +kernel
theorem dX12_drawnHandle_13 : decode cX12_drawnHandle 13 = .ok (.invokevirtual 510, 3) := by decide +kernel
theorem dX12_drawnHandle_16 : decode cX12_drawnHandle 16 = .ok (.istore 4, 2) := by decide +kernel
theorem dX12_drawnHandle_18 : decode cX12_drawnHandle 18 = .ok (.iload 4, 2) := by decide +kernel
theorem dX12_drawnHandle_20 : decode cX12_drawnHandle 20 = .ok (.ifCond .le 10, 3) := by decide +kernel
theorem dX12_drawnHandle_23 : decode cX12_drawnHandle 23 = .ok (.aload_n 0, 1) := by decide +kernel
theorem dX12_drawnHandle_24 : decode cX12_drawnHandle 24 = .ok (.iload 4, 2) := by decide +kernel
theorem dX12_drawnHandle_26 : decode cX12_drawnHandle 26 = .ok (.invokevirtual 45, 3) := by decide +kernel
theorem dX12_drawnHandle_29 : decode cX12_drawnHandle 29 = .ok (.ireturn, 1) := by decide +kernel
theorem dX12_drawnHandle_30 : decode cX12_drawnHandle 30 = .ok (.aload_n 0, 1) := by decide +kernel
theorem dX12_drawnHandle_31 : decode cX12_drawnHandle 31 = .ok (.iload_n 2, 1) := by decide +kernel
theorem dX12_drawnHandle_32 : decode cX12_drawnHandle 32 = .ok (.iload_n 3, 1) := by decide +kernel
theorem dX12_drawnHandle_33 : decode cX12_drawnHandle 33 = .ok (.invokevirtual 514, 3) := by decide +kernel
theorem dX12_drawnHandle_36 : decode cX12_drawnHandle 36 = .ok (.aload_n 0, 1) := by decide +kernel
theorem dX12_drawnHandle_37 : decode cX12_drawnHandle 37 = .ok (.aload_n 0, 1) := by decide +kernel
theorem dX12_drawnHandle_38 : decode cX12_drawnHandle 38 = .ok (.iload_n 1, 1) := by decide +kernel
theorem dX12_drawnHandle_39 : decode cX12_drawnHandle 39 = .ok (.invokevirtual 321, 3) := by decide +kernel
theorem dX12_drawnHandle_42 : decode cX12_drawnHandle 42 = .ok (.invokevirtual 49, 3) := by decide +kernel
theorem dX12_drawnHandle_45 : decode cX12_drawnHandle 45 = .ok (.ireturn, 1) := by decide +kernel
theorem dX12_drawnFed_0 : decode cX12_drawnFed 0 = .ok (.aload_n 0, 1) := by decide +kernel
theorem dX12_drawnFed_1 : decode cX12_drawnFed 1 = .ok (.iconst 0, 1) := by decide +kernel
theorem dX12_drawnFed_2 : decode cX12_drawnFed 2 = .ok (.putfield 39, 3) := by decide +kernel
theorem dX12_drawnFed_5 : decode cX12_drawnFed 5 = .ok (.aload_n 0, 1) := by decide +kernel
theorem dX12_drawnFed_6 : decode cX12_drawnFed 6 = .ok (.aload_n 0, 1) := by decide +kernel
theorem dX12_drawnFed_7 : decode cX12_drawnFed 7 = .ok (.getfield 298, 3) := by decide +kernel
theorem dX12_drawnFed_10 : decode cX12_drawnFed 10 = .ok (.ifnull 7, 3) := by decide +kernel
theorem dX12_drawnFed_13 : decode cX12_drawnFed 13 = .ok (.iconst 1, 1) := by decide +kernel
theorem dX12_drawnFed_14 : decode cX12_drawnFed 14 = .ok (.goto 4, 3) := by decide +kernel
theorem dX12_drawnFed_17 : decode cX12_drawnFed 17 = .ok (.iconst 0, 1) := by decide +kernel
theorem dX12_drawnFed_18 : decode cX12_drawnFed 18 = .ok (.iload_n 1, 1) := by decide +kernel
theorem dX12_drawnFed_19 : decode cX12_drawnFed 19 = .ok (.iload_n 2, 1) := by decide +kernel
theorem dX12_drawnFed_20 : decode cX12_drawnFed 20 = .ok (.invokevirtual 510, 3) := by decide +kernel
theorem dX12_drawnFed_23 : decode cX12_drawnFed 23 = .ok (.istore_n 3, 1) := by decide +kernel
theorem dX12_drawnFed_24 : decode cX12_drawnFed 24 = .ok (.iload_n 3, 1) := by decide +kernel
theorem dX12_drawnFed_25 : decode cX12_drawnFed 25 = .ok (.ifCond .le 9, 3) := by decide +kernel
theorem dX12_drawnFed_28 : decode cX12_drawnFed 28 = .ok (.aload_n 0, 1) := by decide +kernel
theorem dX12_drawnFed_29 : decode cX12_drawnFed 29 = .ok (.iload_n 3, 1) := by decide +kernel
theorem dX12_drawnFed_30 : decode cX12_drawnFed 30 = .ok (.invokevirtual 45, 3) := by decide +kernel
theorem dX12_drawnFed_33 : decode cX12_drawnFed 33 = .ok (.ireturn, 1) := by decide +kernel
theorem dX12_drawnFed_34 : decode cX12_drawnFed 34 = .ok (.aload_n 0, 1) := by decide +kernel
theorem dX12_drawnFed_35 : decode cX12_drawnFed 35 = .ok (.iload_n 1, 1) := by decide +kernel
theorem dX12_drawnFed_36 : decode cX12_drawnFed 36 = .ok (.iload_n 2, 1) := by decide +kernel
theorem dX12_drawnFed_37 : decode cX12_drawnFed 37 = .ok (.invokevirtual 514, 3) := by decide +kernel
theorem dX12_drawnFed_40 : decode cX12_drawnFed 40 = .ok (.aload_n 0, 1) := by decide +kernel
theorem dX12_drawnFed_41 : decode cX12_drawnFed 41 = .ok (.aload_n 0, 1) := by decide +kernel
theorem dX12_drawnFed_42 : decode cX12_drawnFed 42 = .ok (.invokevirtual 366, 3) := by decide +kernel
theorem dX12_drawnFed_45 : decode cX12_drawnFed 45 = .ok (.invokevirtual 49, 3) := by decide +kernel
theorem dX12_drawnFed_48 : decode cX12_drawnFed 48 = .ok (.ireturn, 1) := by decide +kernel
theorem dX12_remembers_0 : decode cX12_remembers 0 = .ok (.aload_n 0, 1) := by decide +kernel
theorem dX12_remembers_1 : decode cX12_remembers 1 = .ok (.getfield 303, 3) := by decide +kernel
theorem dX12_remembers_4 : decode cX12_remembers 4 = .ok (.bipush 16, 2) := by decide +kernel
theorem dX12_remembers_6 : decode cX12_remembers 6 = .ok (.if_icmp .ne 43, 3) := by decide +kernel
theorem dX12_remembers_9 : decode cX12_remembers 9 = .ok (.iconst 0, 1) := by decide +kernel
theorem dX12_remembers_10 : decode cX12_remembers 10 = .ok (.istore_n 1, 1) := by decide +kernel
theorem dX12_remembers_11 : decode cX12_remembers 11 = .ok (.iload_n 1, 1) := by decide +kernel
theorem dX12_remembers_12 : decode cX12_remembers 12 = .ok (.sipush 870, 3) := by decide +kernel
theorem dX12_remembers_15 : decode cX12_remembers 15 = .ok (.if_icmp .ge 24, 3) := by decide +kernel
theorem dX12_remembers_18 : decode cX12_remembers 18 = .ok (.aload_n 0, 1) := by decide +kernel
theorem dX12_remembers_19 : decode cX12_remembers 19 = .ok (.getfield 24, 3) := by decide +kernel
theorem dX12_remembers_22 : decode cX12_remembers 22 = .ok (.iload_n 1, 1) := by decide +kernel
theorem dX12_remembers_23 : decode cX12_remembers 23 = .ok (.aload_n 0, 1) := by decide +kernel
theorem dX12_remembers_24 : decode cX12_remembers 24 = .ok (.getfield 24, 3) := by decide +kernel
theorem dX12_remembers_27 : decode cX12_remembers 27 = .ok (.iload_n 1, 1) := by decide +kernel
theorem dX12_remembers_28 : decode cX12_remembers 28 = .ok (.bipush 58, 2) := by decide +kernel
theorem dX12_remembers_30 : decode cX12_remembers 30 = .ok (.iadd, 1) := by decide +kernel
theorem dX12_remembers_31 : decode cX12_remembers 31 = .ok (.iaload, 1) := by decide +kernel
theorem dX12_remembers_32 : decode cX12_remembers 32 = .ok (.iastore, 1) := by decide +kernel
theorem dX12_remembers_33 : decode cX12_remembers 33 = .ok (.iinc 1 1, 3) := by decide +kernel
theorem dX12_remembers_36 : decode cX12_remembers 36 = .ok (.goto (-25), 3) := by decide +kernel
theorem dX12_remembers_39 : decode cX12_remembers 39 = .ok (.aload_n 0, 1) := by decide +kernel
theorem dX12_remembers_40 : decode cX12_remembers 40 = .ok (.dup, 1) := by decide +kernel
theorem dX12_remembers_41 : decode cX12_remembers 41 = .ok (.getfield 303, 3) := by decide +kernel
theorem dX12_remembers_44 : decode cX12_remembers 44 = .ok (.iconst 1, 1) := by decide +kernel
theorem dX12_remembers_45 : decode cX12_remembers 45 = .ok (.isub, 1) := by decide +kernel
theorem dX12_remembers_46 : decode cX12_remembers 46 = .ok (.putfield 303, 3) := by decide +kernel
theorem dX12_remembers_49 : decode cX12_remembers 49 = .ok (.iconst 0, 1) := by decide +kernel
theorem dX12_remembers_50 : decode cX12_remembers 50 = .ok (.istore_n 1, 1) := by decide +kernel
theorem dX12_remembers_51 : decode cX12_remembers 51 = .ok (.iload_n 1, 1) := by decide +kernel
theorem dX12_remembers_52 : decode cX12_remembers 52 = .ok (.bipush 58, 2) := by decide +kernel
theorem dX12_remembers_54 : decode cX12_remembers 54 = .ok (.if_icmp .ge 29, 3) := by decide +kernel
theorem dX12_remembers_57 : decode cX12_remembers 57 = .ok (.aload_n 0, 1) := by decide +kernel
theorem dX12_remembers_58 : decode cX12_remembers 58 = .ok (.getfield 24, 3) := by decide +kernel
theorem dX12_remembers_61 : decode cX12_remembers 61 = .ok (.bipush 58, 2) := by decide +kernel
theorem dX12_remembers_63 : decode cX12_remembers 63 = .ok (.aload_n 0, 1) := by decide +kernel
theorem dX12_remembers_64 : decode cX12_remembers 64 = .ok (.getfield 303, 3) := by decide +kernel
theorem dX12_remembers_67 : decode cX12_remembers 67 = .ok (.imul, 1) := by decide +kernel
theorem dX12_remembers_68 : decode cX12_remembers 68 = .ok (.iload_n 1, 1) := by decide +kernel
theorem dX12_remembers_69 : decode cX12_remembers 69 = .ok (.iadd, 1) := by decide +kernel
theorem dX12_remembers_70 : decode cX12_remembers 70 = .ok (.aload_n 0, 1) := by decide +kernel
theorem dX12_remembers_71 : decode cX12_remembers 71 = .ok (.getfield 17, 3) := by decide +kernel
theorem dX12_remembers_74 : decode cX12_remembers 74 = .ok (.iload_n 1, 1) := by decide +kernel
theorem dX12_remembers_75 : decode cX12_remembers 75 = .ok (.iaload, 1) := by decide +kernel
theorem dX12_remembers_76 : decode cX12_remembers 76 = .ok (.iastore, 1) := by decide +kernel
theorem dX12_remembers_77 : decode cX12_remembers 77 = .ok (.iinc 1 1, 3) := by decide +kernel
theorem dX12_remembers_80 : decode cX12_remembers 80 = .ok (.goto (-29), 3) := by decide +kernel
theorem dX12_remembers_83 : decode cX12_remembers 83 = .ok (.aload_n 0, 1) := by decide +kernel
theorem dX12_remembers_84 : decode cX12_remembers 84 = .ok (.dup, 1) := by decide +kernel
theorem dX12_remembers_85 : decode cX12_remembers 85 = .ok (.getfield 303, 3) := by decide +kernel
theorem dX12_remembers_88 : decode cX12_remembers 88 = .ok (.iconst 1, 1) := by decide +kernel
theorem dX12_remembers_89 : decode cX12_remembers 89 = .ok (.iadd, 1) := by decide +kernel
theorem dX12_remembers_90 : decode cX12_remembers 90 = .ok (.putfield 303, 3) := by decide +kernel
theorem dX12_remembers_93 : decode cX12_remembers 93 = .ok (.return_, 1) := by decide +kernel
theorem dX12_remains_0 : decode cX12_remains 0 = .ok (.iconst 0, 1) := by decide +kernel
theorem dX12_remains_1 : decode cX12_remains 1 = .ok (.istore_n 1, 1) := by decide +kernel
theorem dX12_remains_2 : decode cX12_remains 2 = .ok (.iload_n 1, 1) := by decide +kernel
theorem dX12_remains_3 : decode cX12_remains 3 = .ok (.bipush 58, 2) := by decide +kernel
theorem dX12_remains_5 : decode cX12_remains 5 = .ok (.if_icmp .ge 21, 3) := by decide +kernel
theorem dX12_remains_8 : decode cX12_remains 8 = .ok (.aload_n 0, 1) := by decide +kernel
theorem dX12_remains_9 : decode cX12_remains 9 = .ok (.getfield 17, 3) := by decide +kernel
theorem dX12_remains_12 : decode cX12_remains 12 = .ok (.iload_n 1, 1) := by decide +kernel
theorem dX12_remains_13 : decode cX12_remains 13 = .ok (.aload_n 0, 1) := by decide +kernel
theorem dX12_remains_14 : decode cX12_remains 14 = .ok (.getfield 21, 3) := by decide +kernel
theorem dX12_remains_17 : decode cX12_remains 17 = .ok (.iload_n 1, 1) := by decide +kernel
theorem dX12_remains_18 : decode cX12_remains 18 = .ok (.iaload, 1) := by decide +kernel
theorem dX12_remains_19 : decode cX12_remains 19 = .ok (.iastore, 1) := by decide +kernel
theorem dX12_remains_20 : decode cX12_remains 20 = .ok (.iinc 1 1, 3) := by decide +kernel
theorem dX12_remains_23 : decode cX12_remains 23 = .ok (.goto (-21), 3) := by decide +kernel
theorem dX12_remains_26 : decode cX12_remains 26 = .ok (.return_, 1) := by decide +kernel
theorem dX12_year_0 : decode cX12_year 0 = .ok (.aload_n 0, 1) := by decide +kernel
theorem dX12_year_1 : decode cX12_year 1 = .ok (.iconst 0, 1) := by decide +kernel
theorem dX12_year_2 : decode cX12_year 2 = .ok (.putfield 39, 3) := by decide +kernel
theorem dX12_year_5 : decode cX12_year 5 = .ok (.aload_n 0, 1) := by decide +kernel
theorem dX12_year_6 : decode cX12_year 6 = .ok (.getfield 298, 3) := by decide +kernel
theorem dX12_year_9 : decode cX12_year 9 = .ok (.ifnonnull 9, 3) := by decide +kernel
theorem dX12_year_12 : decode cX12_year 12 = .ok (.aload_n 0, 1) := by decide +kernel
theorem dX12_year_13 : decode cX12_year 13 = .ok (.iconst 1, 1) := by decide +kernel
theorem dX12_year_14 : decode cX12_year 14 = .ok (.invokevirtual 45, 3) := by decide +kernel
theorem dX12_year_17 : decode cX12_year 17 = .ok (.ireturn, 1) := by decide +kernel
theorem dX12_year_18 : decode cX12_year 18 = .ok (.aload_n 0, 1) := by decide +kernel
theorem dX12_year_19 : decode cX12_year 19 = .ok (.getfield 17, 3) := by decide +kernel
theorem dX12_year_22 : decode cX12_year 22 = .ok (.bipush 57, 2) := by decide +kernel
theorem dX12_year_24 : decode cX12_year 24 = .ok (.iaload, 1) := by decide +kernel
theorem dX12_year_25 : decode cX12_year 25 = .ok (.sipush 999, 3) := by decide +kernel
theorem dX12_year_28 : decode cX12_year 28 = .ok (.if_icmp .ne 9, 3) := by decide +kernel
theorem dX12_year_31 : decode cX12_year 31 = .ok (.aload_n 0, 1) := by decide +kernel
theorem dX12_year_32 : decode cX12_year 32 = .ok (.iconst 3, 1) := by decide +kernel
theorem dX12_year_33 : decode cX12_year 33 = .ok (.invokevirtual 45, 3) := by decide +kernel
theorem dX12_year_36 : decode cX12_year 36 = .ok (.ireturn, 1) := by decide +kernel
theorem dX12_year_37 : decode cX12_year 37 = .ok (.aload_n 0, 1) := by decide +kernel
theorem dX12_year_38 : decode cX12_year 38 = .ok (.invokevirtual 517, 3) := by decide +kernel
theorem dX12_year_41 : decode cX12_year 41 = .ok (.aload_n 0, 1) := by decide +kernel
theorem dX12_year_42 : decode cX12_year 42 = .ok (.iconst 1, 1) := by decide +kernel
theorem dX12_year_43 : decode cX12_year 43 = .ok (.invokevirtual 376, 3) := by decide +kernel
theorem dX12_year_46 : decode cX12_year 46 = .ok (.aload_n 0, 1) := by decide +kernel
theorem dX12_year_47 : decode cX12_year 47 = .ok (.getfield 21, 3) := by decide +kernel
theorem dX12_year_50 : decode cX12_year 50 = .ok (.bipush 57, 2) := by decide +kernel
theorem dX12_year_52 : decode cX12_year 52 = .ok (.dup2, 1) := by decide +kernel
theorem dX12_year_53 : decode cX12_year 53 = .ok (.iaload, 1) := by decide +kernel
theorem dX12_year_54 : decode cX12_year 54 = .ok (.iconst 1, 1) := by decide +kernel
theorem dX12_year_55 : decode cX12_year 55 = .ok (.iadd, 1) := by decide +kernel
theorem dX12_year_56 : decode cX12_year 56 = .ok (.iastore, 1) := by decide +kernel
theorem dX12_year_57 : decode cX12_year 57 = .ok (.aload_n 0, 1) := by decide +kernel
theorem dX12_year_58 : decode cX12_year 58 = .ok (.invokevirtual 520, 3) := by decide +kernel
theorem dX12_year_61 : decode cX12_year 61 = .ok (.aload_n 0, 1) := by decide +kernel
theorem dX12_year_62 : decode cX12_year 62 = .ok (.aload_n 0, 1) := by decide +kernel
theorem dX12_year_63 : decode cX12_year 63 = .ok (.invokevirtual 366, 3) := by decide +kernel
theorem dX12_year_66 : decode cX12_year 66 = .ok (.invokevirtual 49, 3) := by decide +kernel
theorem dX12_year_69 : decode cX12_year 69 = .ok (.ireturn, 1) := by decide +kernel
theorem dX12_quarrel_0 : decode cX12_quarrel 0 = .ok (.aload_n 0, 1) := by decide +kernel
theorem dX12_quarrel_1 : decode cX12_quarrel 1 = .ok (.iconst 0, 1) := by decide +kernel
theorem dX12_quarrel_2 : decode cX12_quarrel 2 = .ok (.putfield 39, 3) := by decide +kernel
theorem dX12_quarrel_5 : decode cX12_quarrel 5 = .ok (.aload_n 0, 1) := by decide +kernel
theorem dX12_quarrel_6 : decode cX12_quarrel 6 = .ok (.iload_n 1, 1) := by decide +kernel
theorem dX12_quarrel_7 : decode cX12_quarrel 7 = .ok (.invokevirtual 330, 3) := by decide +kernel
theorem dX12_quarrel_10 : decode cX12_quarrel 10 = .ok (.ifCond .ne 9, 3) := by decide +kernel
theorem dX12_quarrel_13 : decode cX12_quarrel 13 = .ok (.aload_n 0, 1) := by decide +kernel
theorem dX12_quarrel_14 : decode cX12_quarrel 14 = .ok (.iconst 1, 1) := by decide +kernel
theorem dX12_quarrel_15 : decode cX12_quarrel 15 = .ok (.invokevirtual 45, 3) := by decide +kernel
theorem dX12_quarrel_18 : decode cX12_quarrel 18 = .ok (.ireturn, 1) := by decide +kernel
theorem dX12_quarrel_19 : decode cX12_quarrel 19 = .ok (.aload_n 0, 1) := by decide +kernel
theorem dX12_quarrel_20 : decode cX12_quarrel 20 = .ok (.invokevirtual 333, 3) := by decide +kernel
theorem dX12_quarrel_23 : decode cX12_quarrel 23 = .ok (.aload_n 0, 1) := by decide +kernel
theorem dX12_quarrel_24 : decode cX12_quarrel 24 = .ok (.getfield 21, 3) := by decide +kernel
theorem dX12_quarrel_27 : decode cX12_quarrel 27 = .ok (.bipush 45, 2) := by decide +kernel
theorem dX12_quarrel_29 : decode cX12_quarrel 29 = .ok (.iload_n 1, 1) := by decide +kernel
theorem dX12_quarrel_30 : decode cX12_quarrel 30 = .ok (.iadd, 1) := by decide +kernel
theorem dX12_quarrel_31 : decode cX12_quarrel 31 = .ok (.iaload, 1) := by decide +kernel
theorem dX12_quarrel_32 : decode cX12_quarrel 32 = .ok (.iconst 2, 1) := by decide +kernel
theorem dX12_quarrel_33 : decode cX12_quarrel 33 = .ok (.if_icmp .eq 11, 3) := by decide +kernel
theorem dX12_quarrel_36 : decode cX12_quarrel 36 = .ok (.aload_n 0, 1) := by decide +kernel
theorem dX12_quarrel_37 : decode cX12_quarrel 37 = .ok (.iload_n 1, 1) := by decide +kernel
theorem dX12_quarrel_38 : decode cX12_quarrel 38 = .ok (.invokevirtual 321, 3) := by decide +kernel
theorem dX12_quarrel_41 : decode cX12_quarrel 41 = .ok (.ifCond .ne 9, 3) := by decide +kernel
theorem dX12_quarrel_44 : decode cX12_quarrel 44 = .ok (.aload_n 0, 1) := by decide +kernel
theorem dX12_quarrel_45 : decode cX12_quarrel 45 = .ok (.iconst 5, 1) := by decide +kernel
theorem dX12_quarrel_46 : decode cX12_quarrel 46 = .ok (.invokevirtual 45, 3) := by decide +kernel
theorem dX12_quarrel_49 : decode cX12_quarrel 49 = .ok (.ireturn, 1) := by decide +kernel
theorem dX12_quarrel_50 : decode cX12_quarrel 50 = .ok (.aload_n 0, 1) := by decide +kernel
theorem dX12_quarrel_51 : decode cX12_quarrel 51 = .ok (.invokevirtual 517, 3) := by decide +kernel
theorem dX12_quarrel_54 : decode cX12_quarrel 54 = .ok (.aload_n 0, 1) := by decide +kernel
theorem dX12_quarrel_55 : decode cX12_quarrel 55 = .ok (.iload_n 1, 1) := by decide +kernel
theorem dX12_quarrel_56 : decode cX12_quarrel 56 = .ok (.invokevirtual 479, 3) := by decide +kernel
theorem dX12_quarrel_59 : decode cX12_quarrel 59 = .ok (.aload_n 0, 1) := by decide +kernel
theorem dX12_quarrel_60 : decode cX12_quarrel 60 = .ok (.invokevirtual 520, 3) := by decide +kernel
theorem dX12_quarrel_63 : decode cX12_quarrel 63 = .ok (.aload_n 0, 1) := by decide +kernel
theorem dX12_quarrel_64 : decode cX12_quarrel 64 = .ok (.aload_n 0, 1) := by decide +kernel
theorem dX12_quarrel_65 : decode cX12_quarrel 65 = .ok (.iload_n 1, 1) := by decide +kernel
theorem dX12_quarrel_66 : decode cX12_quarrel 66 = .ok (.invokevirtual 321, 3) := by decide +kernel
theorem dX12_quarrel_69 : decode cX12_quarrel 69 = .ok (.invokevirtual 49, 3) := by decide +kernel
theorem dX12_quarrel_72 : decode cX12_quarrel 72 = .ok (.ireturn, 1) := by decide +kernel
theorem dX12_sit_0 : decode cX12_sit 0 = .ok (.aload_n 0, 1) := by decide +kernel
theorem dX12_sit_1 : decode cX12_sit 1 = .ok (.iconst 0, 1) := by decide +kernel
theorem dX12_sit_2 : decode cX12_sit 2 = .ok (.putfield 39, 3) := by decide +kernel
theorem dX12_sit_5 : decode cX12_sit 5 = .ok (.aload_n 0, 1) := by decide +kernel
theorem dX12_sit_6 : decode cX12_sit 6 = .ok (.iload_n 1, 1) := by decide +kernel
theorem dX12_sit_7 : decode cX12_sit 7 = .ok (.invokevirtual 309, 3) := by decide +kernel
theorem dX12_sit_10 : decode cX12_sit 10 = .ok (.ifCond .ne 9, 3) := by decide +kernel
theorem dX12_sit_13 : decode cX12_sit 13 = .ok (.aload_n 0, 1) := by decide +kernel
theorem dX12_sit_14 : decode cX12_sit 14 = .ok (.iconst 1, 1) := by decide +kernel
theorem dX12_sit_15 : decode cX12_sit 15 = .ok (.invokevirtual 45, 3) := by decide +kernel
theorem dX12_sit_18 : decode cX12_sit 18 = .ok (.ireturn, 1) := by decide +kernel
theorem dX12_sit_19 : decode cX12_sit 19 = .ok (.iload_n 2, 1) := by decide +kernel
theorem dX12_sit_20 : decode cX12_sit 20 = .ok (.iconst 0, 1) := by decide +kernel
theorem dX12_sit_21 : decode cX12_sit 21 = .ok (.aload_n 0, 1) := by decide +kernel
theorem dX12_sit_22 : decode cX12_sit 22 = .ok (.getfield 298, 3) := by decide +kernel
theorem dX12_sit_25 : decode cX12_sit 25 = .ok (.getfield 149, 3) := by decide +kernel
theorem dX12_sit_28 : decode cX12_sit 28 = .ok (.iconst 1, 1) := by decide +kernel
theorem dX12_sit_29 : decode cX12_sit 29 = .ok (.isub, 1) := by decide +kernel
theorem dX12_sit_30 : decode cX12_sit 30 = .ok (.invokestatic 118, 3) := by decide +kernel
theorem dX12_sit_33 : decode cX12_sit 33 = .ok (.ifCond .ne 9, 3) := by decide +kernel
theorem dX12_sit_36 : decode cX12_sit 36 = .ok (.aload_n 0, 1) := by decide +kernel
theorem dX12_sit_37 : decode cX12_sit 37 = .ok (.iconst 2, 1) := by decide +kernel
theorem dX12_sit_38 : decode cX12_sit 38 = .ok (.invokevirtual 45, 3) := by decide +kernel
theorem dX12_sit_41 : decode cX12_sit 41 = .ok (.ireturn, 1) := by decide +kernel
theorem dX12_sit_42 : decode cX12_sit 42 = .ok (.aload_n 0, 1) := by decide +kernel
theorem dX12_sit_43 : decode cX12_sit 43 = .ok (.iload_n 2, 1) := by decide +kernel
theorem dX12_sit_44 : decode cX12_sit 44 = .ok (.invokevirtual 400, 3) := by decide +kernel
theorem dX12_sit_47 : decode cX12_sit 47 = .ok (.ifCond .eq 9, 3) := by decide +kernel
theorem dX12_sit_50 : decode cX12_sit 50 = .ok (.aload_n 0, 1) := by decide +kernel
theorem dX12_sit_51 : decode cX12_sit 51 = .ok (.iconst 5, 1) := by decide +kernel
theorem dX12_sit_52 : decode cX12_sit 52 = .ok (.invokevirtual 45, 3) := by decide +kernel
theorem dX12_sit_55 : decode cX12_sit 55 = .ok (.ireturn, 1) := by decide +kernel
theorem dX12_sit_56 : decode cX12_sit 56 = .ok (.aload_n 0, 1) := by decide +kernel
theorem dX12_sit_57 : decode cX12_sit 57 = .ok (.invokevirtual 517, 3) := by decide +kernel
theorem dX12_sit_60 : decode cX12_sit 60 = .ok (.aload_n 0, 1) := by decide +kernel
theorem dX12_sit_61 : decode cX12_sit 61 = .ok (.getfield 17, 3) := by decide +kernel
theorem dX12_sit_64 : decode cX12_sit 64 = .ok (.iload_n 1, 1) := by decide +kernel
theorem dX12_sit_65 : decode cX12_sit 65 = .ok (.iaload, 1) := by decide +kernel
theorem dX12_sit_66 : decode cX12_sit 66 = .ok (.istore_n 3, 1) := by decide +kernel
theorem dX12_sit_67 : decode cX12_sit 67 = .ok (.aload_n 0, 1) := by decide +kernel
theorem dX12_sit_68 : decode cX12_sit 68 = .ok (.getfield 17, 3) := by decide +kernel
theorem dX12_sit_71 : decode cX12_sit 71 = .ok (.iload_n 1, 1) := by decide +kernel
theorem dX12_sit_72 : decode cX12_sit 72 = .ok (.iload_n 2, 1) := by decide +kernel
theorem dX12_sit_73 : decode cX12_sit 73 = .ok (.iastore, 1) := by decide +kernel
theorem dX12_sit_74 : decode cX12_sit 74 = .ok (.aload_n 0, 1) := by decide +kernel
theorem dX12_sit_75 : decode cX12_sit 75 = .ok (.iload_n 3, 1) := by decide +kernel
theorem dX12_sit_76 : decode cX12_sit 76 = .ok (.invokevirtual 49, 3) := by decide +kernel
theorem dX12_sit_79 : decode cX12_sit 79 = .ok (.ireturn, 1) := by decide +kernel
theorem dX12_know_0 : decode cX12_know 0 = .ok (.aload_n 0, 1) := by decide +kernel
theorem dX12_know_1 : decode cX12_know 1 = .ok (.iconst 0, 1) := by decide +kernel
theorem dX12_know_2 : decode cX12_know 2 = .ok (.putfield 39, 3) := by decide +kernel
theorem dX12_know_5 : decode cX12_know 5 = .ok (.aload_n 0, 1) := by decide +kernel
theorem dX12_know_6 : decode cX12_know 6 = .ok (.iload_n 1, 1) := by decide +kernel
theorem dX12_know_7 : decode cX12_know 7 = .ok (.iload_n 2, 1) := by decide +kernel
theorem dX12_know_8 : decode cX12_know 8 = .ok (.invokevirtual 342, 3) := by decide +kernel
theorem dX12_know_11 : decode cX12_know 11 = .ok (.ifCond .ne 9, 3) := by decide +kernel
theorem dX12_know_14 : decode cX12_know 14 = .ok (.aload_n 0, 1) := by decide +kernel
theorem dX12_know_15 : decode cX12_know 15 = .ok (.iconst 1, 1) := by decide +kernel
theorem dX12_know_16 : decode cX12_know 16 = .ok (.invokevirtual 45, 3) := by decide +kernel
theorem dX12_know_19 : decode cX12_know 19 = .ok (.ireturn, 1) := by decide +kernel
theorem dX12_know_20 : decode cX12_know 20 = .ok (.aload_n 0, 1) := by decide +kernel
theorem dX12_know_21 : decode cX12_know 21 = .ok (.invokevirtual 333, 3) := by decide +kernel
theorem dX12_know_24 : decode cX12_know 24 = .ok (.aload_n 0, 1) := by decide +kernel
theorem dX12_know_25 : decode cX12_know 25 = .ok (.iload_n 1, 1) := by decide +kernel
theorem dX12_know_26 : decode cX12_know 26 = .ok (.iload_n 2, 1) := by decide +kernel
theorem dX12_know_27 : decode cX12_know 27 = .ok (.invokevirtual 345, 3) := by decide +kernel
theorem dX12_know_30 : decode cX12_know 30 = .ok (.bipush (-2), 2) := by decide +kernel
theorem dX12_know_32 : decode cX12_know 32 = .ok (.if_icmp .eq 9, 3) := by decide +kernel
theorem dX12_know_35 : decode cX12_know 35 = .ok (.aload_n 0, 1) := by decide +kernel
theorem dX12_know_36 : decode cX12_know 36 = .ok (.iconst 5, 1) := by decide +kernel
theorem dX12_know_37 : decode cX12_know 37 = .ok (.invokevirtual 45, 3) := by decide +kernel
theorem dX12_know_40 : decode cX12_know 40 = .ok (.ireturn, 1) := by decide +kernel
theorem dX12_know_41 : decode cX12_know 41 = .ok (.aload_n 0, 1) := by decide +kernel
theorem dX12_know_42 : decode cX12_know 42 = .ok (.invokevirtual 517, 3) := by decide +kernel
theorem dX12_know_45 : decode cX12_know 45 = .ok (.aload_n 0, 1) := by decide +kernel
theorem dX12_know_46 : decode cX12_know 46 = .ok (.iload_n 1, 1) := by decide +kernel
theorem dX12_know_47 : decode cX12_know 47 = .ok (.iload_n 2, 1) := by decide +kernel
theorem dX12_know_48 : decode cX12_know 48 = .ok (.invokevirtual 421, 3) := by decide +kernel
theorem dX12_know_51 : decode cX12_know 51 = .ok (.aload_n 0, 1) := by decide +kernel
theorem dX12_know_52 : decode cX12_know 52 = .ok (.invokevirtual 520, 3) := by decide +kernel
theorem dX12_know_55 : decode cX12_know 55 = .ok (.aload_n 0, 1) := by decide +kernel
theorem dX12_know_56 : decode cX12_know 56 = .ok (.aload_n 0, 1) := by decide +kernel
theorem dX12_know_57 : decode cX12_know 57 = .ok (.getfield 17, 3) := by decide +kernel
theorem dX12_know_60 : decode cX12_know 60 = .ok (.bipush 55, 2) := by decide +kernel
theorem dX12_know_62 : decode cX12_know 62 = .ok (.iaload, 1) := by decide +kernel
theorem dX12_know_63 : decode cX12_know 63 = .ok (.iconst 1, 1) := by decide +kernel
theorem dX12_know_64 : decode cX12_know 64 = .ok (.isub, 1) := by decide +kernel
theorem dX12_know_65 : decode cX12_know 65 = .ok (.invokevirtual 49, 3) := by decide +kernel
theorem dX12_know_68 : decode cX12_know 68 = .ok (.ireturn, 1) := by decide +kernel
theorem dX12_undo_0 : decode cX12_undo 0 = .ok (.aload_n 0, 1) := by decide +kernel
theorem dX12_undo_1 : decode cX12_undo 1 = .ok (.iconst 0, 1) := by decide +kernel
theorem dX12_undo_2 : decode cX12_undo 2 = .ok (.putfield 39, 3) := by decide +kernel
theorem dX12_undo_5 : decode cX12_undo 5 = .ok (.aload_n 0, 1) := by decide +kernel
theorem dX12_undo_6 : decode cX12_undo 6 = .ok (.getfield 298, 3) := by decide +kernel
theorem dX12_undo_9 : decode cX12_undo 9 = .ok (.ifnull 10, 3) := by decide +kernel
theorem dX12_undo_12 : decode cX12_undo 12 = .ok (.aload_n 0, 1) := by decide +kernel
theorem dX12_undo_13 : decode cX12_undo 13 = .ok (.getfield 303, 3) := by decide +kernel
theorem dX12_undo_16 : decode cX12_undo 16 = .ok (.ifCond .ne 10, 3) := by decide +kernel
theorem dX12_undo_19 : decode cX12_undo 19 = .ok (.aload_n 0, 1) := by decide +kernel
theorem dX12_undo_20 : decode cX12_undo 20 = .ok (.bipush 6, 2) := by decide +kernel
theorem dX12_undo_22 : decode cX12_undo 22 = .ok (.invokevirtual 523, 3) := by decide +kernel
theorem dX12_undo_25 : decode cX12_undo 25 = .ok (.ireturn, 1) := by decide +kernel
theorem dX12_undo_26 : decode cX12_undo 26 = .ok (.aload_n 0, 1) := by decide +kernel
theorem dX12_undo_27 : decode cX12_undo 27 = .ok (.dup, 1) := by decide +kernel
theorem dX12_undo_28 : decode cX12_undo 28 = .ok (.getfield 303, 3) := by decide +kernel
theorem dX12_undo_31 : decode cX12_undo 31 = .ok (.iconst 1, 1) := by decide +kernel
theorem dX12_undo_32 : decode cX12_undo 32 = .ok (.isub, 1) := by decide +kernel
theorem dX12_undo_33 : decode cX12_undo 33 = .ok (.putfield 303, 3) := by decide +kernel
theorem dX12_undo_36 : decode cX12_undo 36 = .ok (.iconst 0, 1) := by decide +kernel
theorem dX12_undo_37 : decode cX12_undo 37 = .ok (.istore_n 1, 1) := by decide +kernel
theorem dX12_undo_38 : decode cX12_undo 38 = .ok (.iload_n 1, 1) := by decide +kernel
theorem dX12_undo_39 : decode cX12_undo 39 = .ok (.bipush 58, 2) := by decide +kernel
theorem dX12_undo_41 : decode cX12_undo 41 = .ok (.if_icmp .ge 29, 3) := by decide +kernel
theorem dX12_undo_44 : decode cX12_undo 44 = .ok (.aload_n 0, 1) := by decide +kernel
theorem dX12_undo_45 : decode cX12_undo 45 = .ok (.getfield 17, 3) := by decide +kernel
theorem dX12_undo_48 : decode cX12_undo 48 = .ok (.iload_n 1, 1) := by decide +kernel
theorem dX12_undo_49 : decode cX12_undo 49 = .ok (.aload_n 0, 1) := by decide +kernel
theorem dX12_undo_50 : decode cX12_undo 50 = .ok (.getfield 24, 3) := by decide +kernel
theorem dX12_undo_53 : decode cX12_undo 53 = .ok (.bipush 58, 2) := by decide +kernel
theorem dX12_undo_55 : decode cX12_undo 55 = .ok (.aload_n 0, 1) := by decide +kernel
theorem dX12_undo_56 : decode cX12_undo 56 = .ok (.getfield 303, 3) := by decide +kernel
theorem dX12_undo_59 : decode cX12_undo 59 = .ok (.imul, 1) := by decide +kernel
theorem dX12_undo_60 : decode cX12_undo 60 = .ok (.iload_n 1, 1) := by decide +kernel
theorem dX12_undo_61 : decode cX12_undo 61 = .ok (.iadd, 1) := by decide +kernel
theorem dX12_undo_62 : decode cX12_undo 62 = .ok (.iaload, 1) := by decide +kernel
theorem dX12_undo_63 : decode cX12_undo 63 = .ok (.iastore, 1) := by decide +kernel
theorem dX12_undo_64 : decode cX12_undo 64 = .ok (.iinc 1 1, 3) := by decide +kernel
theorem dX12_undo_67 : decode cX12_undo 67 = .ok (.goto (-29), 3) := by decide +kernel
theorem dX12_undo_70 : decode cX12_undo 70 = .ok (.aload_n 0, 1) := by decide +kernel
theorem dX12_undo_71 : decode cX12_undo 71 = .ok (.invokevirtual 526, 3) := by decide +kernel
theorem dX12_undo_74 : decode cX12_undo 74 = .ok (.ireturn, 1) := by decide +kernel
theorem dX12_image_0 : decode cX12_image 0 = .ok (.aload_n 0, 1) := by decide +kernel
theorem dX12_image_1 : decode cX12_image 1 = .ok (.iconst 0, 1) := by decide +kernel
theorem dX12_image_2 : decode cX12_image 2 = .ok (.putfield 39, 3) := by decide +kernel
theorem dX12_image_5 : decode cX12_image 5 = .ok (.aload_n 0, 1) := by decide +kernel
theorem dX12_image_6 : decode cX12_image 6 = .ok (.getfield 298, 3) := by decide +kernel
theorem dX12_image_9 : decode cX12_image 9 = .ok (.ifnonnull 9, 3) := by decide +kernel
theorem dX12_image_12 : decode cX12_image 12 = .ok (.aload_n 0, 1) := by decide +kernel
theorem dX12_image_13 : decode cX12_image 13 = .ok (.iconst 1, 1) := by decide +kernel
theorem dX12_image_14 : decode cX12_image 14 = .ok (.invokevirtual 45, 3) := by decide +kernel
theorem dX12_image_17 : decode cX12_image 17 = .ok (.ireturn, 1) := by decide +kernel
theorem dX12_image_18 : decode cX12_image 18 = .ok (.aload_n 0, 1) := by decide +kernel
theorem dX12_image_19 : decode cX12_image 19 = .ok (.getfield 306, 3) := by decide +kernel
theorem dX12_image_22 : decode cX12_image 22 = .ok (.iconst 3, 1) := by decide +kernel
theorem dX12_image_23 : decode cX12_image 23 = .ok (.if_icmp .ne 9, 3) := by decide +kernel
theorem dX12_image_26 : decode cX12_image 26 = .ok (.aload_n 0, 1) := by decide +kernel
theorem dX12_image_27 : decode cX12_image 27 = .ok (.iconst 3, 1) := by decide +kernel
theorem dX12_image_28 : decode cX12_image 28 = .ok (.invokevirtual 45, 3) := by decide +kernel
theorem dX12_image_31 : decode cX12_image 31 = .ok (.ireturn, 1) := by decide +kernel
theorem dX12_image_32 : decode cX12_image 32 = .ok (.iconst 0, 1) := by decide +kernel
theorem dX12_image_33 : decode cX12_image 33 = .ok (.istore_n 1, 1) := by decide +kernel
theorem dX12_image_34 : decode cX12_image 34 = .ok (.iload_n 1, 1) := by decide +kernel
theorem dX12_image_35 : decode cX12_image 35 = .ok (.bipush 58, 2) := by decide +kernel
theorem dX12_image_37 : decode cX12_image 37 = .ok (.if_icmp .ge 29, 3) := by decide +kernel
theorem dX12_image_40 : decode cX12_image 40 = .ok (.aload_n 0, 1) := by decide +kernel
theorem dX12_image_41 : decode cX12_image 41 = .ok (.getfield 27, 3) := by decide +kernel
theorem dX12_image_44 : decode cX12_image 44 = .ok (.bipush 58, 2) := by decide +kernel
theorem dX12_image_46 : decode cX12_image 46 = .ok (.aload_n 0, 1) := by decide +kernel
theorem dX12_image_47 : decode cX12_image 47 = .ok (.getfield 306, 3) := by decide +kernel
theorem dX12_image_50 : decode cX12_image 50 = .ok (.imul, 1) := by decide +kernel
theorem dX12_image_51 : decode cX12_image 51 = .ok (.iload_n 1, 1) := by decide +kernel
theorem dX12_image_52 : decode cX12_image 52 = .ok (.iadd, 1) := by decide +kernel
theorem dX12_image_53 : decode cX12_image 53 = .ok (.aload_n 0, 1) := by decide +kernel
theorem dX12_image_54 : decode cX12_image 54 = .ok (.getfield 17, 3) := by decide +kernel
theorem dX12_image_57 : decode cX12_image 57 = .ok (.iload_n 1, 1) := by decide +kernel
theorem dX12_image_58 : decode cX12_image 58 = .ok (.iaload, 1) := by decide +kernel
theorem dX12_image_59 : decode cX12_image 59 = .ok (.iastore, 1) := by decide +kernel
theorem dX12_image_60 : decode cX12_image 60 = .ok (.iinc 1 1, 3) := by decide +kernel
theorem dX12_image_63 : decode cX12_image 63 = .ok (.goto (-29), 3) := by decide +kernel
theorem dX12_image_66 : decode cX12_image 66 = .ok (.aload_n 0, 1) := by decide +kernel
theorem dX12_image_67 : decode cX12_image 67 = .ok (.dup, 1) := by decide +kernel
theorem dX12_image_68 : decode cX12_image 68 = .ok (.getfield 306, 3) := by decide +kernel
theorem dX12_image_71 : decode cX12_image 71 = .ok (.iconst 1, 1) := by decide +kernel
theorem dX12_image_72 : decode cX12_image 72 = .ok (.iadd, 1) := by decide +kernel
theorem dX12_image_73 : decode cX12_image 73 = .ok (.putfield 306, 3) := by decide +kernel
theorem dX12_image_76 : decode cX12_image 76 = .ok (.aload_n 0, 1) := by decide +kernel
theorem dX12_image_77 : decode cX12_image 77 = .ok (.aload_n 0, 1) := by decide +kernel
theorem dX12_image_78 : decode cX12_image 78 = .ok (.getfield 306, 3) := by decide +kernel
theorem dX12_image_81 : decode cX12_image 81 = .ok (.iconst 1, 1) := by decide +kernel
theorem dX12_image_82 : decode cX12_image 82 = .ok (.isub, 1) := by decide +kernel
theorem dX12_image_83 : decode cX12_image 83 = .ok (.invokevirtual 49, 3) := by decide +kernel
theorem dX12_image_86 : decode cX12_image 86 = .ok (.ireturn, 1) := by decide +kernel
theorem dX12_back_0 : decode cX12_back 0 = .ok (.aload_n 0, 1) := by decide +kernel
theorem dX12_back_1 : decode cX12_back 1 = .ok (.iconst 0, 1) := by decide +kernel
theorem dX12_back_2 : decode cX12_back 2 = .ok (.putfield 39, 3) := by decide +kernel
theorem dX12_back_5 : decode cX12_back 5 = .ok (.aload_n 0, 1) := by decide +kernel
theorem dX12_back_6 : decode cX12_back 6 = .ok (.getfield 298, 3) := by decide +kernel
theorem dX12_back_9 : decode cX12_back 9 = .ok (.ifnull 15, 3) := by decide +kernel
theorem dX12_back_12 : decode cX12_back 12 = .ok (.iload_n 1, 1) := by decide +kernel
theorem dX12_back_13 : decode cX12_back 13 = .ok (.ifCond .lt 11, 3) := by decide +kernel
theorem dX12_back_16 : decode cX12_back 16 = .ok (.iload_n 1, 1) := by decide +kernel
theorem dX12_back_17 : decode cX12_back 17 = .ok (.aload_n 0, 1) := by decide +kernel
theorem dX12_back_18 : decode cX12_back 18 = .ok (.getfield 306, 3) := by decide +kernel
theorem dX12_back_21 : decode cX12_back 21 = .ok (.if_icmp .lt 9, 3) := by decide +kernel
theorem dX12_back_24 : decode cX12_back 24 = .ok (.aload_n 0, 1) := by decide +kernel
theorem dX12_back_25 : decode cX12_back 25 = .ok (.iconst 1, 1) := by decide +kernel
theorem dX12_back_26 : decode cX12_back 26 = .ok (.invokevirtual 523, 3) := by decide +kernel
theorem dX12_back_29 : decode cX12_back 29 = .ok (.ireturn, 1) := by decide +kernel
theorem dX12_back_30 : decode cX12_back 30 = .ok (.iconst 0, 1) := by decide +kernel
theorem dX12_back_31 : decode cX12_back 31 = .ok (.istore_n 2, 1) := by decide +kernel
theorem dX12_back_32 : decode cX12_back 32 = .ok (.iload_n 2, 1) := by decide +kernel
theorem dX12_back_33 : decode cX12_back 33 = .ok (.bipush 58, 2) := by decide +kernel
theorem dX12_back_35 : decode cX12_back 35 = .ok (.if_icmp .ge 26, 3) := by decide +kernel
theorem dX12_back_38 : decode cX12_back 38 = .ok (.aload_n 0, 1) := by decide +kernel
theorem dX12_back_39 : decode cX12_back 39 = .ok (.getfield 17, 3) := by decide +kernel
theorem dX12_back_42 : decode cX12_back 42 = .ok (.iload_n 2, 1) := by decide +kernel
theorem dX12_back_43 : decode cX12_back 43 = .ok (.aload_n 0, 1) := by decide +kernel
theorem dX12_back_44 : decode cX12_back 44 = .ok (.getfield 27, 3) := by decide +kernel
theorem dX12_back_47 : decode cX12_back 47 = .ok (.bipush 58, 2) := by decide +kernel
theorem dX12_back_49 : decode cX12_back 49 = .ok (.iload_n 1, 1) := by decide +kernel
theorem dX12_back_50 : decode cX12_back 50 = .ok (.imul, 1) := by decide +kernel
theorem dX12_back_51 : decode cX12_back 51 = .ok (.iload_n 2, 1) := by decide +kernel
theorem dX12_back_52 : decode cX12_back 52 = .ok (.iadd, 1) := by decide +kernel
theorem dX12_back_53 : decode cX12_back 53 = .ok (.iaload, 1) := by decide +kernel
theorem dX12_back_54 : decode cX12_back 54 = .ok (.iastore, 1) := by decide +kernel
theorem dX12_back_55 : decode cX12_back 55 = .ok (.iinc 2 1, 3) := by decide +kernel
theorem dX12_back_58 : decode cX12_back 58 = .ok (.goto (-26), 3) := by decide +kernel
theorem dX12_back_61 : decode cX12_back 61 = .ok (.aload_n 0, 1) := by decide +kernel
theorem dX12_back_62 : decode cX12_back 62 = .ok (.iconst 0, 1) := by decide +kernel
theorem dX12_back_63 : decode cX12_back 63 = .ok (.putfield 303, 3) := by decide +kernel
theorem dX12_back_66 : decode cX12_back 66 = .ok (.aload_n 0, 1) := by decide +kernel
theorem dX12_back_67 : decode cX12_back 67 = .ok (.invokevirtual 526, 3) := by decide +kernel
theorem dX12_back_70 : decode cX12_back 70 = .ok (.ireturn, 1) := by decide +kernel
theorem dX12_led_0 : decode cX12_led 0 = .ok (.aload_n 0, 1) := by decide +kernel
theorem dX12_led_1 : decode cX12_led 1 = .ok (.iconst 0, 1) := by decide +kernel
theorem dX12_led_2 : decode cX12_led 2 = .ok (.putfield 39, 3) := by decide +kernel
theorem dX12_led_5 : decode cX12_led 5 = .ok (.iconst 0, 1) := by decide +kernel
theorem dX12_led_6 : decode cX12_led 6 = .ok (.istore_n 2, 1) := by decide +kernel
theorem dX12_led_7 : decode cX12_led 7 = .ok (.aload_n 0, 1) := by decide +kernel
theorem dX12_led_8 : decode cX12_led 8 = .ok (.getfield 298, 3) := by decide +kernel
theorem dX12_led_11 : decode cX12_led 11 = .ok (.ifnull 7, 3) := by decide +kernel
theorem dX12_led_14 : decode cX12_led 14 = .ok (.aload_n 0, 1) := by decide +kernel
theorem dX12_led_15 : decode cX12_led 15 = .ok (.invokevirtual 333, 3) := by decide +kernel
theorem dX12_led_18 : decode cX12_led 18 = .ok (.iconst 0, 1) := by decide +kernel
theorem dX12_led_19 : decode cX12_led 19 = .ok (.istore_n 3, 1) := by decide +kernel
theorem dX12_led_20 : decode cX12_led 20 = .ok (.aload_n 0, 1) := by decide +kernel
theorem dX12_led_21 : decode cX12_led 21 = .ok (.getfield 298, 3) := by decide +kernel
theorem dX12_led_24 : decode cX12_led 24 = .ok (.ifnull 41, 3) := by decide +kernel
theorem dX12_led_27 : decode cX12_led 27 = .ok (.iload_n 3, 1) := by decide +kernel
theorem dX12_led_28 : decode cX12_led 28 = .ok (.aload_n 0, 1) := by decide +kernel
theorem dX12_led_29 : decode cX12_led 29 = .ok (.getfield 298, 3) := by decide +kernel
theorem dX12_led_32 : decode cX12_led 32 = .ok (.getfield 177, 3) := by decide +kernel
theorem dX12_led_35 : decode cX12_led 35 = .ok (.if_icmp .ge 30, 3) := by decide +kernel
theorem dX12_led_38 : decode cX12_led 38 = .ok (.aload_n 0, 1) := by decide +kernel
theorem dX12_led_39 : decode cX12_led 39 = .ok (.iload_n 3, 1) := by decide +kernel
theorem dX12_led_40 : decode cX12_led 40 = .ok (.invokevirtual 348, 3) := by decide +kernel
theorem dX12_led_43 : decode cX12_led 43 = .ok (.ifCond .eq 6, 3) := by decide +kernel
theorem dX12_led_46 : decode cX12_led 46 = .ok (.goto 13, 3) := by decide +kernel
theorem dX12_led_49 : decode cX12_led 49 = .ok (.iload_n 2, 1) := by decide +kernel
theorem dX12_led_50 : decode cX12_led 50 = .ok (.iload_n 1, 1) := by decide +kernel
theorem dX12_led_51 : decode cX12_led 51 = .ok (.if_icmp .ne 5, 3) := by decide +kernel
theorem dX12_led_54 : decode cX12_led 54 = .ok (.iload_n 3, 1) := by decide +kernel
theorem dX12_led_55 : decode cX12_led 55 = .ok (.ireturn, 1) := by decide +kernel
theorem dX12_led_56 : decode cX12_led 56 = .ok (.iinc 2 1, 3) := by decide +kernel
theorem dX12_led_59 : decode cX12_led 59 = .ok (.iinc 3 1, 3) := by decide +kernel
theorem dX12_led_62 : decode cX12_led 62 = .ok (.goto (-42), 3) := by decide +kernel
theorem dX12_led_65 : decode cX12_led 65 = .ok (.aload_n 0, 1) := by decide +kernel
theorem dX12_led_66 : decode cX12_led 66 = .ok (.iconst 1, 1) := by decide +kernel
theorem dX12_led_67 : decode cX12_led 67 = .ok (.putfield 39, 3) := by decide +kernel
theorem dX12_led_70 : decode cX12_led 70 = .ok (.iconst 0, 1) := by decide +kernel
theorem dX12_led_71 : decode cX12_led 71 = .ok (.ireturn, 1) := by decide +kernel
theorem dX12_size_0 : decode cX12_size 0 = .ok (.aload_n 0, 1) := by decide +kernel
theorem dX12_size_1 : decode cX12_size 1 = .ok (.iconst 0, 1) := by decide +kernel
theorem dX12_size_2 : decode cX12_size 2 = .ok (.putfield 39, 3) := by decide +kernel
theorem dX12_size_5 : decode cX12_size 5 = .ok (.iload_n 1, 1) := by decide +kernel
theorem dX12_size_6 : decode cX12_size 6 = .ok (.bipush 12, 2) := by decide +kernel
theorem dX12_size_8 : decode cX12_size 8 = .ok (.if_icmp .ne 8, 3) := by decide +kernel
theorem dX12_size_11 : decode cX12_size 11 = .ok (.aload_n 0, 1) := by decide +kernel
theorem dX12_size_12 : decode cX12_size 12 = .ok (.getfield 291, 3) := by decide +kernel
theorem dX12_size_15 : decode cX12_size 15 = .ok (.ireturn, 1) := by decide +kernel
theorem dX12_size_16 : decode cX12_size 16 = .ok (.iload_n 1, 1) := by decide +kernel
theorem dX12_size_17 : decode cX12_size 17 = .ok (.iconst 0, 1) := by decide +kernel
theorem dX12_size_18 : decode cX12_size 18 = .ok (.bipush 11, 2) := by decide +kernel
theorem dX12_size_20 : decode cX12_size 20 = .ok (.invokestatic 118, 3) := by decide +kernel
theorem dX12_size_23 : decode cX12_size 23 = .ok (.ifCond .ne 5, 3) := by decide +kernel
theorem dX12_size_26 : decode cX12_size 26 = .ok (.iconst (-1), 1) := by decide +kernel
theorem dX12_size_27 : decode cX12_size 27 = .ok (.ireturn, 1) := by decide +kernel
theorem dX12_size_28 : decode cX12_size 28 = .ok (.aload_n 0, 1) := by decide +kernel
theorem dX12_size_29 : decode cX12_size 29 = .ok (.getfield 298, 3) := by decide +kernel
theorem dX12_size_32 : decode cX12_size 32 = .ok (.ifnonnull 5, 3) := by decide +kernel
theorem dX12_size_35 : decode cX12_size 35 = .ok (.iconst 0, 1) := by decide +kernel
theorem dX12_size_36 : decode cX12_size 36 = .ok (.ireturn, 1) := by decide +kernel
theorem dX12_size_37 : decode cX12_size 37 = .ok (.iload_n 1, 1) := by decide +kernel
theorem dX12_size_38 : decode cX12_size 38 = .ok (.tableswitch 146 0 10 #[58, 66, 74, 82, 90, 98, 109, 117, 125, 133, 141], 58) := by decide +kernel
theorem dX12_size_96 : decode cX12_size 96 = .ok (.aload_n 0, 1) := by decide +kernel
theorem dX12_size_97 : decode cX12_size 97 = .ok (.getfield 298, 3) := by decide +kernel
theorem dX12_size_100 : decode cX12_size 100 = .ok (.getfield 149, 3) := by decide +kernel
theorem dX12_size_103 : decode cX12_size 103 = .ok (.ireturn, 1) := by decide +kernel
theorem dX12_size_104 : decode cX12_size 104 = .ok (.aload_n 0, 1) := by decide +kernel
theorem dX12_size_105 : decode cX12_size 105 = .ok (.getfield 298, 3) := by decide +kernel
theorem dX12_size_108 : decode cX12_size 108 = .ok (.getfield 209, 3) := by decide +kernel
theorem dX12_size_111 : decode cX12_size 111 = .ok (.ireturn, 1) := by decide +kernel
theorem dX12_size_112 : decode cX12_size 112 = .ok (.aload_n 0, 1) := by decide +kernel
theorem dX12_size_113 : decode cX12_size 113 = .ok (.getfield 298, 3) := by decide +kernel
theorem dX12_size_116 : decode cX12_size 116 = .ok (.getfield 211, 3) := by decide +kernel
theorem dX12_size_119 : decode cX12_size 119 = .ok (.ireturn, 1) := by decide +kernel
theorem dX12_size_120 : decode cX12_size 120 = .ok (.aload_n 0, 1) := by decide +kernel
theorem dX12_size_121 : decode cX12_size 121 = .ok (.getfield 298, 3) := by decide +kernel
theorem dX12_size_124 : decode cX12_size 124 = .ok (.getfield 213, 3) := by decide +kernel
theorem dX12_size_127 : decode cX12_size 127 = .ok (.ireturn, 1) := by decide +kernel
theorem dX12_size_128 : decode cX12_size 128 = .ok (.aload_n 0, 1) := by decide +kernel
theorem dX12_size_129 : decode cX12_size 129 = .ok (.getfield 298, 3) := by decide +kernel
theorem dX12_size_132 : decode cX12_size 132 = .ok (.getfield 177, 3) := by decide +kernel
theorem dX12_size_135 : decode cX12_size 135 = .ok (.ireturn, 1) := by decide +kernel
theorem dX12_size_136 : decode cX12_size 136 = .ok (.aload_n 0, 1) := by decide +kernel
theorem dX12_size_137 : decode cX12_size 137 = .ok (.getfield 298, 3) := by decide +kernel
theorem dX12_size_140 : decode cX12_size 140 = .ok (.getfield 231, 3) := by decide +kernel
theorem dX12_size_143 : decode cX12_size 143 = .ok (.invokestatic 234, 3) := by decide +kernel
theorem dX12_size_146 : decode cX12_size 146 = .ok (.ireturn, 1) := by decide +kernel
theorem dX12_size_147 : decode cX12_size 147 = .ok (.aload_n 0, 1) := by decide +kernel
theorem dX12_size_148 : decode cX12_size 148 = .ok (.getfield 17, 3) := by decide +kernel
theorem dX12_size_151 : decode cX12_size 151 = .ok (.bipush 55, 2) := by decide +kernel
theorem dX12_size_153 : decode cX12_size 153 = .ok (.iaload, 1) := by decide +kernel
theorem dX12_size_154 : decode cX12_size 154 = .ok (.ireturn, 1) := by decide +kernel
theorem dX12_size_155 : decode cX12_size 155 = .ok (.aload_n 0, 1) := by decide +kernel
theorem dX12_size_156 : decode cX12_size 156 = .ok (.getfield 298, 3) := by decide +kernel
theorem dX12_size_159 : decode cX12_size 159 = .ok (.getfield 263, 3) := by decide +kernel
theorem dX12_size_162 : decode cX12_size 162 = .ok (.ireturn, 1) := by decide +kernel
theorem dX12_size_163 : decode cX12_size 163 = .ok (.aload_n 0, 1) := by decide +kernel
theorem dX12_size_164 : decode cX12_size 164 = .ok (.getfield 298, 3) := by decide +kernel
theorem dX12_size_167 : decode cX12_size 167 = .ok (.getfield 277, 3) := by decide +kernel
theorem dX12_size_170 : decode cX12_size 170 = .ok (.ireturn, 1) := by decide +kernel
theorem dX12_size_171 : decode cX12_size 171 = .ok (.aload_n 0, 1) := by decide +kernel
theorem dX12_size_172 : decode cX12_size 172 = .ok (.getfield 17, 3) := by decide +kernel
theorem dX12_size_175 : decode cX12_size 175 = .ok (.bipush 57, 2) := by decide +kernel
theorem dX12_size_177 : decode cX12_size 177 = .ok (.iaload, 1) := by decide +kernel
theorem dX12_size_178 : decode cX12_size 178 = .ok (.ireturn, 1) := by decide +kernel
theorem dX12_size_179 : decode cX12_size 179 = .ok (.aload_n 0, 1) := by decide +kernel
theorem dX12_size_180 : decode cX12_size 180 = .ok (.getfield 303, 3) := by decide +kernel
theorem dX12_size_183 : decode cX12_size 183 = .ok (.ireturn, 1) := by decide +kernel
theorem dX12_size_184 : decode cX12_size 184 = .ok (.aload_n 0, 1) := by decide +kernel
theorem dX12_size_185 : decode cX12_size 185 = .ok (.getfield 306, 3) := by decide +kernel
theorem dX12_size_188 : decode cX12_size 188 = .ok (.ireturn, 1) := by decide +kernel
theorem dX12_trouble_0 : decode cX12_trouble 0 = .ok (.aload_n 0, 1) := by decide +kernel
theorem dX12_trouble_1 : decode cX12_trouble 1 = .ok (.iconst 0, 1) := by decide +kernel
theorem dX12_trouble_2 : decode cX12_trouble 2 = .ok (.putfield 39, 3) := by decide +kernel
theorem dX12_trouble_5 : decode cX12_trouble 5 = .ok (.aload_n 0, 1) := by decide +kernel
theorem dX12_trouble_6 : decode cX12_trouble 6 = .ok (.getfield 42, 3) := by decide +kernel
theorem dX12_trouble_9 : decode cX12_trouble 9 = .ok (.ireturn, 1) := by decide +kernel
theorem dJ6_bitCount_0f7a4_0 : decode cJ6_bitCount_0f7a4 0 = .ok (.iload_n 0, 1) := by decide +kernel
theorem dJ6_bitCount_0f7a4_1 : decode cJ6_bitCount_0f7a4 1 = .ok (.iload_n 0, 1) := by decide +kernel
theorem dJ6_bitCount_0f7a4_2 : decode cJ6_bitCount_0f7a4 2 = .ok (.iconst 1, 1) := by decide +kernel
theorem dJ6_bitCount_0f7a4_3 : decode cJ6_bitCount_0f7a4 3 = .ok (.iushr, 1) := by decide +kernel
theorem dJ6_bitCount_0f7a4_4 : decode cJ6_bitCount_0f7a4 4 = .ok (.ldc_w 265, 3) := by decide +kernel
theorem dJ6_bitCount_0f7a4_7 : decode cJ6_bitCount_0f7a4 7 = .ok (.iand, 1) := by decide +kernel
theorem dJ6_bitCount_0f7a4_8 : decode cJ6_bitCount_0f7a4 8 = .ok (.isub, 1) := by decide +kernel
theorem dJ6_bitCount_0f7a4_9 : decode cJ6_bitCount_0f7a4 9 = .ok (.istore_n 0, 1) := by decide +kernel
theorem dJ6_bitCount_0f7a4_10 : decode cJ6_bitCount_0f7a4 10 = .ok (.iload_n 0, 1) := by decide +kernel
theorem dJ6_bitCount_0f7a4_11 : decode cJ6_bitCount_0f7a4 11 = .ok (.ldc_w 266, 3) := by decide +kernel
theorem dJ6_bitCount_0f7a4_14 : decode cJ6_bitCount_0f7a4 14 = .ok (.iand, 1) := by decide +kernel
theorem dJ6_bitCount_0f7a4_15 : decode cJ6_bitCount_0f7a4 15 = .ok (.iload_n 0, 1) := by decide +kernel
theorem dJ6_bitCount_0f7a4_16 : decode cJ6_bitCount_0f7a4 16 = .ok (.iconst 2, 1) := by decide +kernel
theorem dJ6_bitCount_0f7a4_17 : decode cJ6_bitCount_0f7a4 17 = .ok (.iushr, 1) := by decide +kernel
theorem dJ6_bitCount_0f7a4_18 : decode cJ6_bitCount_0f7a4 18 = .ok (.ldc_w 266, 3) := by decide +kernel
theorem dJ6_bitCount_0f7a4_21 : decode cJ6_bitCount_0f7a4 21 = .ok (.iand, 1) := by decide +kernel
theorem dJ6_bitCount_0f7a4_22 : decode cJ6_bitCount_0f7a4 22 = .ok (.iadd, 1) := by decide +kernel
theorem dJ6_bitCount_0f7a4_23 : decode cJ6_bitCount_0f7a4 23 = .ok (.istore_n 0, 1) := by decide +kernel
theorem dJ6_bitCount_0f7a4_24 : decode cJ6_bitCount_0f7a4 24 = .ok (.iload_n 0, 1) := by decide +kernel
theorem dJ6_bitCount_0f7a4_25 : decode cJ6_bitCount_0f7a4 25 = .ok (.iload_n 0, 1) := by decide +kernel
theorem dJ6_bitCount_0f7a4_26 : decode cJ6_bitCount_0f7a4 26 = .ok (.iconst 4, 1) := by decide +kernel
theorem dJ6_bitCount_0f7a4_27 : decode cJ6_bitCount_0f7a4 27 = .ok (.iushr, 1) := by decide +kernel
theorem dJ6_bitCount_0f7a4_28 : decode cJ6_bitCount_0f7a4 28 = .ok (.iadd, 1) := by decide +kernel
theorem dJ6_bitCount_0f7a4_29 : decode cJ6_bitCount_0f7a4 29 = .ok (.ldc_w 267, 3) := by decide +kernel
theorem dJ6_bitCount_0f7a4_32 : decode cJ6_bitCount_0f7a4 32 = .ok (.iand, 1) := by decide +kernel
theorem dJ6_bitCount_0f7a4_33 : decode cJ6_bitCount_0f7a4 33 = .ok (.istore_n 0, 1) := by decide +kernel
theorem dJ6_bitCount_0f7a4_34 : decode cJ6_bitCount_0f7a4 34 = .ok (.iload_n 0, 1) := by decide +kernel
theorem dJ6_bitCount_0f7a4_35 : decode cJ6_bitCount_0f7a4 35 = .ok (.iload_n 0, 1) := by decide +kernel
theorem dJ6_bitCount_0f7a4_36 : decode cJ6_bitCount_0f7a4 36 = .ok (.bipush 8, 2) := by decide +kernel
theorem dJ6_bitCount_0f7a4_38 : decode cJ6_bitCount_0f7a4 38 = .ok (.iushr, 1) := by decide +kernel
theorem dJ6_bitCount_0f7a4_39 : decode cJ6_bitCount_0f7a4 39 = .ok (.iadd, 1) := by decide +kernel
theorem dJ6_bitCount_0f7a4_40 : decode cJ6_bitCount_0f7a4 40 = .ok (.istore_n 0, 1) := by decide +kernel
theorem dJ6_bitCount_0f7a4_41 : decode cJ6_bitCount_0f7a4 41 = .ok (.iload_n 0, 1) := by decide +kernel
theorem dJ6_bitCount_0f7a4_42 : decode cJ6_bitCount_0f7a4 42 = .ok (.iload_n 0, 1) := by decide +kernel
theorem dJ6_bitCount_0f7a4_43 : decode cJ6_bitCount_0f7a4 43 = .ok (.bipush 16, 2) := by decide +kernel
theorem dJ6_bitCount_0f7a4_45 : decode cJ6_bitCount_0f7a4 45 = .ok (.iushr, 1) := by decide +kernel
theorem dJ6_bitCount_0f7a4_46 : decode cJ6_bitCount_0f7a4 46 = .ok (.iadd, 1) := by decide +kernel
theorem dJ6_bitCount_0f7a4_47 : decode cJ6_bitCount_0f7a4 47 = .ok (.istore_n 0, 1) := by decide +kernel
theorem dJ6_bitCount_0f7a4_48 : decode cJ6_bitCount_0f7a4 48 = .ok (.iload_n 0, 1) := by decide +kernel
theorem dJ6_bitCount_0f7a4_49 : decode cJ6_bitCount_0f7a4 49 = .ok (.bipush 63, 2) := by decide +kernel
theorem dJ6_bitCount_0f7a4_51 : decode cJ6_bitCount_0f7a4 51 = .ok (.iand, 1) := by decide +kernel
theorem dJ6_bitCount_0f7a4_52 : decode cJ6_bitCount_0f7a4 52 = .ok (.ireturn, 1) := by decide +kernel
theorem dJ9_abs_0f7a4_0 : decode cJ9_abs_0f7a4 0 = .ok (.iload_n 0, 1) := by decide +kernel
theorem dJ9_abs_0f7a4_1 : decode cJ9_abs_0f7a4 1 = .ok (.ifCond .ge 8, 3) := by decide +kernel
theorem dJ9_abs_0f7a4_4 : decode cJ9_abs_0f7a4 4 = .ok (.iload_n 0, 1) := by decide +kernel
theorem dJ9_abs_0f7a4_5 : decode cJ9_abs_0f7a4 5 = .ok (.ineg, 1) := by decide +kernel
theorem dJ9_abs_0f7a4_6 : decode cJ9_abs_0f7a4 6 = .ok (.goto 4, 3) := by decide +kernel
theorem dJ9_abs_0f7a4_9 : decode cJ9_abs_0f7a4 9 = .ok (.iload_n 0, 1) := by decide +kernel
theorem dJ9_abs_0f7a4_10 : decode cJ9_abs_0f7a4 10 = .ok (.ireturn, 1) := by decide +kernel
theorem dJ9_max_7cf53_0 : decode cJ9_max_7cf53 0 = .ok (.iload_n 0, 1) := by decide +kernel
theorem dJ9_max_7cf53_1 : decode cJ9_max_7cf53 1 = .ok (.iload_n 1, 1) := by decide +kernel
theorem dJ9_max_7cf53_2 : decode cJ9_max_7cf53 2 = .ok (.if_icmp .lt 7, 3) := by decide +kernel
theorem dJ9_max_7cf53_5 : decode cJ9_max_7cf53 5 = .ok (.iload_n 0, 1) := by decide +kernel
theorem dJ9_max_7cf53_6 : decode cJ9_max_7cf53 6 = .ok (.goto 4, 3) := by decide +kernel
theorem dJ9_max_7cf53_9 : decode cJ9_max_7cf53 9 = .ok (.iload_n 1, 1) := by decide +kernel
theorem dJ9_max_7cf53_10 : decode cJ9_max_7cf53 10 = .ok (.ireturn, 1) := by decide +kernel
theorem dJ9_min_7cf53_0 : decode cJ9_min_7cf53 0 = .ok (.iload_n 0, 1) := by decide +kernel
theorem dJ9_min_7cf53_1 : decode cJ9_min_7cf53 1 = .ok (.iload_n 1, 1) := by decide +kernel
theorem dJ9_min_7cf53_2 : decode cJ9_min_7cf53 2 = .ok (.if_icmp .gt 7, 3) := by decide +kernel
theorem dJ9_min_7cf53_5 : decode cJ9_min_7cf53 5 = .ok (.iload_n 0, 1) := by decide +kernel
theorem dJ9_min_7cf53_6 : decode cJ9_min_7cf53 6 = .ok (.goto 4, 3) := by decide +kernel
theorem dJ9_min_7cf53_9 : decode cJ9_min_7cf53 9 = .ok (.iload_n 1, 1) := by decide +kernel
theorem dJ9_min_7cf53_10 : decode cJ9_min_7cf53 10 = .ok (.ireturn, 1) := by decide +kernel
theorem dJ0_length_8abf5_0 : decode cJ0_length_8abf5 0 = .ok (.aload_n 0, 1) := by decide +kernel
theorem dJ0_length_8abf5_1 : decode cJ0_length_8abf5 1 = .ok (.getfield 9, 3) := by decide +kernel
theorem dJ0_length_8abf5_4 : decode cJ0_length_8abf5 4 = .ok (.arraylength, 1) := by decide +kernel
theorem dJ0_length_8abf5_5 : decode cJ0_length_8abf5 5 = .ok (.aload_n 0, 1) := by decide +kernel
theorem dJ0_length_8abf5_6 : decode cJ0_length_8abf5 6 = .ok (.invokevirtual 335, 3) := by decide +kernel
theorem dJ0_length_8abf5_9 : decode cJ0_length_8abf5 9 = .ok (.ishr, 1) := by decide +kernel
theorem dJ0_length_8abf5_10 : decode cJ0_length_8abf5 10 = .ok (.ireturn, 1) := by decide +kernel
theorem dJ0_charAt_5068e_0 : decode cJ0_charAt_5068e 0 = .ok (.aload_n 0, 1) := by decide +kernel
theorem dJ0_charAt_5068e_1 : decode cJ0_charAt_5068e 1 = .ok (.invokevirtual 492, 3) := by decide +kernel
theorem dJ0_charAt_5068e_4 : decode cJ0_charAt_5068e 4 = .ok (.ifCond .eq 12, 3) := by decide +kernel
theorem dJ0_charAt_5068e_7 : decode cJ0_charAt_5068e 7 = .ok (.aload_n 0, 1) := by decide +kernel
theorem dJ0_charAt_5068e_8 : decode cJ0_charAt_5068e 8 = .ok (.getfield 9, 3) := by decide +kernel
theorem dJ0_charAt_5068e_11 : decode cJ0_charAt_5068e 11 = .ok (.iload_n 1, 1) := by decide +kernel
theorem dJ0_charAt_5068e_12 : decode cJ0_charAt_5068e 12 = .ok (.invokestatic 495, 3) := by decide +kernel
theorem dJ0_charAt_5068e_15 : decode cJ0_charAt_5068e 15 = .ok (.ireturn, 1) := by decide +kernel
theorem dJ0_charAt_5068e_16 : decode cJ0_charAt_5068e 16 = .ok (.aload_n 0, 1) := by decide +kernel
theorem dJ0_charAt_5068e_17 : decode cJ0_charAt_5068e 17 = .ok (.getfield 9, 3) := by decide +kernel
theorem dJ0_charAt_5068e_20 : decode cJ0_charAt_5068e 20 = .ok (.iload_n 1, 1) := by decide +kernel
theorem dJ0_charAt_5068e_21 : decode cJ0_charAt_5068e 21 = .ok (.invokestatic 498, 3) := by decide +kernel
theorem dJ0_charAt_5068e_24 : decode cJ0_charAt_5068e 24 = .ok (.ireturn, 1) := by decide +kernel
theorem dJ0_coder_7d493_0 : decode cJ0_coder_7d493 0 = .ok (.getstatic 38, 3) := by decide +kernel
theorem dJ0_coder_7d493_3 : decode cJ0_coder_7d493 3 = .ok (.ifCond .eq 10, 3) := by decide +kernel
theorem dJ0_coder_7d493_6 : decode cJ0_coder_7d493 6 = .ok (.aload_n 0, 1) := by decide +kernel
theorem dJ0_coder_7d493_7 : decode cJ0_coder_7d493 7 = .ok (.getfield 15, 3) := by decide +kernel
theorem dJ0_coder_7d493_10 : decode cJ0_coder_7d493 10 = .ok (.goto 4, 3) := by decide +kernel
theorem dJ0_coder_7d493_13 : decode cJ0_coder_7d493 13 = .ok (.iconst 1, 1) := by decide +kernel
theorem dJ0_coder_7d493_14 : decode cJ0_coder_7d493 14 = .ok (.ireturn, 1) := by decide +kernel
theorem dJ0_isLatin1_aae02_0 : decode cJ0_isLatin1_aae02 0 = .ok (.getstatic 38, 3) := by decide +kernel
theorem dJ0_isLatin1_aae02_3 : decode cJ0_isLatin1_aae02 3 = .ok (.ifCond .eq 14, 3) := by decide +kernel
theorem dJ0_isLatin1_aae02_6 : decode cJ0_isLatin1_aae02 6 = .ok (.aload_n 0, 1) := by decide +kernel
theorem dJ0_isLatin1_aae02_7 : decode cJ0_isLatin1_aae02 7 = .ok (.getfield 15, 3) := by decide +kernel
theorem dJ0_isLatin1_aae02_10 : decode cJ0_isLatin1_aae02 10 = .ok (.ifCond .ne 7, 3) := by decide +kernel
theorem dJ0_isLatin1_aae02_13 : decode cJ0_isLatin1_aae02 13 = .ok (.iconst 1, 1) := by decide +kernel
theorem dJ0_isLatin1_aae02_14 : decode cJ0_isLatin1_aae02 14 = .ok (.goto 4, 3) := by decide +kernel
theorem dJ0_isLatin1_aae02_17 : decode cJ0_isLatin1_aae02 17 = .ok (.iconst 0, 1) := by decide +kernel
theorem dJ0_isLatin1_aae02_18 : decode cJ0_isLatin1_aae02 18 = .ok (.ireturn, 1) := by decide +kernel
theorem dJ0_checkIndex_df160_0 : decode cJ0_checkIndex_df160 0 = .ok (.iload_n 0, 1) := by decide +kernel
theorem dJ0_checkIndex_df160_1 : decode cJ0_checkIndex_df160 1 = .ok (.iload_n 1, 1) := by decide +kernel
theorem dJ0_checkIndex_df160_2 : decode cJ0_checkIndex_df160 2 = .ok (.getstatic 1053, 3) := by decide +kernel
theorem dJ0_checkIndex_df160_5 : decode cJ0_checkIndex_df160 5 = .ok (.invokestatic 1059, 3) := by decide +kernel
theorem dJ0_checkIndex_df160_8 : decode cJ0_checkIndex_df160 8 = .ok (.pop, 1) := by decide +kernel
theorem dJ0_checkIndex_df160_9 : decode cJ0_checkIndex_df160 9 = .ok (.return_, 1) := by decide +kernel
theorem dJ1_charAt_3b067_0 : decode cJ1_charAt_3b067 0 = .ok (.iload_n 1, 1) := by decide +kernel
theorem dJ1_charAt_3b067_1 : decode cJ1_charAt_3b067 1 = .ok (.aload_n 0, 1) := by decide +kernel
theorem dJ1_charAt_3b067_2 : decode cJ1_charAt_3b067 2 = .ok (.arraylength, 1) := by decide +kernel
theorem dJ1_charAt_3b067_3 : decode cJ1_charAt_3b067 3 = .ok (.invokestatic 9, 3) := by decide +kernel
theorem dJ1_charAt_3b067_6 : decode cJ1_charAt_3b067 6 = .ok (.aload_n 0, 1) := by decide +kernel
theorem dJ1_charAt_3b067_7 : decode cJ1_charAt_3b067 7 = .ok (.iload_n 1, 1) := by decide +kernel
theorem dJ1_charAt_3b067_8 : decode cJ1_charAt_3b067 8 = .ok (.baload, 1) := by decide +kernel
theorem dJ1_charAt_3b067_9 : decode cJ1_charAt_3b067 9 = .ok (.sipush 255, 3) := by decide +kernel
theorem dJ1_charAt_3b067_12 : decode cJ1_charAt_3b067 12 = .ok (.iand, 1) := by decide +kernel
theorem dJ1_charAt_3b067_13 : decode cJ1_charAt_3b067 13 = .ok (.i2c, 1) := by decide +kernel
theorem dJ1_charAt_3b067_14 : decode cJ1_charAt_3b067 14 = .ok (.ireturn, 1) := by decide +kernel
theorem dJ2_getChar_3b067_0 : decode cJ2_getChar_3b067 0 = .ok (.getstatic 44, 3) := by decide +kernel
theorem dJ2_getChar_3b067_3 : decode cJ2_getChar_3b067 3 = .ok (.ifCond .ne 25, 3) := by decide +kernel
theorem dJ2_getChar_3b067_6 : decode cJ2_getChar_3b067 6 = .ok (.iload_n 1, 1) := by decide +kernel
theorem dJ2_getChar_3b067_7 : decode cJ2_getChar_3b067 7 = .ok (.ifCond .lt 11, 3) := by decide +kernel
theorem dJ2_getChar_3b067_10 : decode cJ2_getChar_3b067 10 = .ok (.iload_n 1, 1) := by decide +kernel
theorem dJ2_getChar_3b067_11 : decode cJ2_getChar_3b067 11 = .ok (.aload_n 0, 1) := by decide +kernel
theorem dJ2_getChar_3b067_12 : decode cJ2_getChar_3b067 12 = .ok (.invokestatic 48, 3) := by decide +kernel
theorem dJ2_getChar_3b067_15 : decode cJ2_getChar_3b067 15 = .ok (.if_icmp .lt 13, 3) := by decide +kernel
theorem dJ2_getChar_3b067_18 : decode cJ2_getChar_3b067 18 = .ok (.new 52, 3) := by decide +kernel
theorem dJ2_getChar_3b067_21 : decode cJ2_getChar_3b067 21 = .ok (.dup, 1) := by decide +kernel
theorem dJ2_getChar_3b067_22 : decode cJ2_getChar_3b067 22 = .ok (.ldc 54, 2) := by decide +kernel
theorem dJ2_getChar_3b067_24 : decode cJ2_getChar_3b067 24 = .ok (.invokespecial 56, 3) := by decide +kernel
theorem dJ2_getChar_3b067_27 : decode cJ2_getChar_3b067 27 = .ok (.athrow, 1) := by decide +kernel
theorem dJ2_getChar_3b067_28 : decode cJ2_getChar_3b067 28 = .ok (.iload_n 1, 1) := by decide +kernel
theorem dJ2_getChar_3b067_29 : decode cJ2_getChar_3b067 29 = .ok (.iconst 1, 1) := by decide +kernel
theorem dJ2_getChar_3b067_30 : decode cJ2_getChar_3b067 30 = .ok (.ishl, 1) := by decide +kernel
theorem dJ2_getChar_3b067_31 : decode cJ2_getChar_3b067 31 = .ok (.istore_n 1, 1) := by decide +kernel
theorem dJ2_getChar_3b067_32 : decode cJ2_getChar_3b067 32 = .ok (.aload_n 0, 1) := by decide +kernel
theorem dJ2_getChar_3b067_33 : decode cJ2_getChar_3b067 33 = .ok (.iload_n 1, 1) := by decide +kernel
theorem dJ2_getChar_3b067_34 : decode cJ2_getChar_3b067 34 = .ok (.iinc 1 1, 3) := by decide +kernel
theorem dJ2_getChar_3b067_37 : decode cJ2_getChar_3b067 37 = .ok (.baload, 1) := by decide +kernel
theorem dJ2_getChar_3b067_38 : decode cJ2_getChar_3b067 38 = .ok (.sipush 255, 3) := by decide +kernel
theorem dJ2_getChar_3b067_41 : decode cJ2_getChar_3b067 41 = .ok (.iand, 1) := by decide +kernel
theorem dJ2_getChar_3b067_42 : decode cJ2_getChar_3b067 42 = .ok (.getstatic 59, 3) := by decide +kernel
theorem dJ2_getChar_3b067_45 : decode cJ2_getChar_3b067 45 = .ok (.ishl, 1) := by decide +kernel
theorem dJ2_getChar_3b067_46 : decode cJ2_getChar_3b067 46 = .ok (.aload_n 0, 1) := by decide +kernel
theorem dJ2_getChar_3b067_47 : decode cJ2_getChar_3b067 47 = .ok (.iload_n 1, 1) := by decide +kernel
theorem dJ2_getChar_3b067_48 : decode cJ2_getChar_3b067 48 = .ok (.baload, 1) := by decide +kernel
theorem dJ2_getChar_3b067_49 : decode cJ2_getChar_3b067 49 = .ok (.sipush 255, 3) := by decide +kernel
theorem dJ2_getChar_3b067_52 : decode cJ2_getChar_3b067 52 = .ok (.iand, 1) := by decide +kernel
theorem dJ2_getChar_3b067_53 : decode cJ2_getChar_3b067 53 = .ok (.getstatic 63, 3) := by decide +kernel
theorem dJ2_getChar_3b067_56 : decode cJ2_getChar_3b067 56 = .ok (.ishl, 1) := by decide +kernel
theorem dJ2_getChar_3b067_57 : decode cJ2_getChar_3b067 57 = .ok (.ior, 1) := by decide +kernel
theorem dJ2_getChar_3b067_58 : decode cJ2_getChar_3b067 58 = .ok (.i2c, 1) := by decide +kernel
theorem dJ2_getChar_3b067_59 : decode cJ2_getChar_3b067 59 = .ok (.ireturn, 1) := by decide +kernel
theorem dJ2_length_9d52b_0 : decode cJ2_length_9d52b 0 = .ok (.aload_n 0, 1) := by decide +kernel
theorem dJ2_length_9d52b_1 : decode cJ2_length_9d52b 1 = .ok (.arraylength, 1) := by decide +kernel
theorem dJ2_length_9d52b_2 : decode cJ2_length_9d52b 2 = .ok (.iconst 1, 1) := by decide +kernel
theorem dJ2_length_9d52b_3 : decode cJ2_length_9d52b 3 = .ok (.ishr, 1) := by decide +kernel
theorem dJ2_length_9d52b_4 : decode cJ2_length_9d52b 4 = .ok (.ireturn, 1) := by decide +kernel
theorem dJ2_charAt_3b067_0 : decode cJ2_charAt_3b067 0 = .ok (.iload_n 1, 1) := by decide +kernel
theorem dJ2_charAt_3b067_1 : decode cJ2_charAt_3b067 1 = .ok (.aload_n 0, 1) := by decide +kernel
theorem dJ2_charAt_3b067_2 : decode cJ2_charAt_3b067 2 = .ok (.invokestatic 67, 3) := by decide +kernel
theorem dJ2_charAt_3b067_5 : decode cJ2_charAt_3b067 5 = .ok (.aload_n 0, 1) := by decide +kernel
theorem dJ2_charAt_3b067_6 : decode cJ2_charAt_3b067 6 = .ok (.iload_n 1, 1) := by decide +kernel
theorem dJ2_charAt_3b067_7 : decode cJ2_charAt_3b067 7 = .ok (.invokestatic 71, 3) := by decide +kernel
theorem dJ2_charAt_3b067_10 : decode cJ2_charAt_3b067 10 = .ok (.ireturn, 1) := by decide +kernel
theorem dJ2_checkIndex_2214a_0 : decode cJ2_checkIndex_2214a 0 = .ok (.iload_n 0, 1) := by decide +kernel
theorem dJ2_checkIndex_2214a_1 : decode cJ2_checkIndex_2214a 1 = .ok (.aload_n 1, 1) := by decide +kernel
theorem dJ2_checkIndex_2214a_2 : decode cJ2_checkIndex_2214a 2 = .ok (.invokestatic 48, 3) := by decide +kernel
theorem dJ2_checkIndex_2214a_5 : decode cJ2_checkIndex_2214a 5 = .ok (.invokestatic 414, 3) := by decide +kernel
theorem dJ2_checkIndex_2214a_8 : decode cJ2_checkIndex_2214a 8 = .ok (.return_, 1) := by decide +kernel
theorem dJ3_checkIndex_8e157_0 : decode cJ3_checkIndex_8e157 0 = .ok (.iload_n 0, 1) := by decide +kernel
theorem dJ3_checkIndex_8e157_1 : decode cJ3_checkIndex_8e157 1 = .ok (.ifCond .lt 8, 3) := by decide +kernel
theorem dJ3_checkIndex_8e157_4 : decode cJ3_checkIndex_8e157 4 = .ok (.iload_n 0, 1) := by decide +kernel
theorem dJ3_checkIndex_8e157_5 : decode cJ3_checkIndex_8e157 5 = .ok (.iload_n 1, 1) := by decide +kernel
theorem dJ3_checkIndex_8e157_6 : decode cJ3_checkIndex_8e157 6 = .ok (.if_icmp .lt 10, 3) := by decide +kernel
theorem dJ3_checkIndex_8e157_9 : decode cJ3_checkIndex_8e157 9 = .ok (.aload_n 2, 1) := by decide +kernel
theorem dJ3_checkIndex_8e157_10 : decode cJ3_checkIndex_8e157 10 = .ok (.iload_n 0, 1) := by decide +kernel
theorem dJ3_checkIndex_8e157_11 : decode cJ3_checkIndex_8e157 11 = .ok (.iload_n 1, 1) := by decide +kernel
theorem dJ3_checkIndex_8e157_12 : decode cJ3_checkIndex_8e157 12 = .ok (.invokestatic 95, 3) := by decide +kernel
theorem dJ3_checkIndex_8e157_15 : decode cJ3_checkIndex_8e157 15 = .ok (.athrow, 1) := by decide +kernel
theorem dJ3_checkIndex_8e157_16 : decode cJ3_checkIndex_8e157 16 = .ok (.iload_n 0, 1) := by decide +kernel
theorem dJ3_checkIndex_8e157_17 : decode cJ3_checkIndex_8e157 17 = .ok (.ireturn, 1) := by decide +kernel
theorem dL_led_0 : decode cL_led 0 = .ok (.aload_n 2, 1) := by decide +kernel
theorem dL_led_1 : decode cL_led 1 = .ok (.iconst 0, 1) := by decide +kernel
theorem dL_led_2 : decode cL_led 2 = .ok (.aload_n 0, 1) := by decide +kernel
theorem dL_led_3 : decode cL_led 3 = .ok (.iload_n 1, 1) := by decide +kernel
theorem dL_led_4 : decode cL_led 4 = .ok (.invokevirtual 7, 3) := by decide +kernel
theorem dL_led_7 : decode cL_led 7 = .ok (.i2l, 1) := by decide +kernel
theorem dL_led_8 : decode cL_led 8 = .ok (.lastore, 1) := by decide +kernel
theorem dL_led_9 : decode cL_led 9 = .ok (.goto 6, 3) := by decide +kernel
theorem dL_led_12 : decode cL_led 12 = .ok (.astore_n 3, 1) := by decide +kernel
theorem dL_led_13 : decode cL_led 13 = .ok (.iconst 1, 1) := by decide +kernel
theorem dL_led_14 : decode cL_led 14 = .ok (.ireturn, 1) := by decide +kernel
theorem dL_led_15 : decode cL_led 15 = .ok (.iconst 0, 1) := by decide +kernel
theorem dL_led_16 : decode cL_led 16 = .ok (.ireturn, 1) := by decide +kernel
theorem dL_law_0 : decode cL_law 0 = .ok (.new 8, 3) := by decide +kernel
theorem dL_law_3 : decode cL_law 3 = .ok (.dup, 1) := by decide +kernel
theorem dL_law_4 : decode cL_law 4 = .ok (.invokespecial 15, 3) := by decide +kernel
theorem dL_law_7 : decode cL_law 7 = .ok (.astore_n 1, 1) := by decide +kernel
theorem dL_law_8 : decode cL_law 8 = .ok (.new 16, 3) := by decide +kernel
theorem dL_law_11 : decode cL_law 11 = .ok (.dup, 1) := by decide +kernel
theorem dL_law_12 : decode cL_law 12 = .ok (.invokespecial 18, 3) := by decide +kernel
theorem dL_law_15 : decode cL_law 15 = .ok (.astore_n 2, 1) := by decide +kernel
theorem dL_law_16 : decode cL_law 16 = .ok (.iconst 1, 1) := by decide +kernel
theorem dL_law_17 : decode cL_law 17 = .ok (.newarray .long, 2) := by decide +kernel
theorem dL_law_19 : decode cL_law 19 = .ok (.astore_n 3, 1) := by decide +kernel
theorem dL_law_20 : decode cL_law 20 = .ok (.iconst 0, 1) := by decide +kernel
theorem dL_law_21 : decode cL_law 21 = .ok (.istore 4, 2) := by decide +kernel
theorem dL_law_23 : decode cL_law 23 = .ok (.iload 4, 2) := by decide +kernel
theorem dL_law_25 : decode cL_law 25 = .ok (.aload_n 0, 1) := by decide +kernel
theorem dL_law_26 : decode cL_law 26 = .ok (.arraylength, 1) := by decide +kernel
theorem dL_law_27 : decode cL_law 27 = .ok (.bipush 6, 2) := by decide +kernel
theorem dL_law_29 : decode cL_law 29 = .ok (.isub, 1) := by decide +kernel
theorem dL_law_30 : decode cL_law 30 = .ok (.if_icmp .gt 1796, 3) := by decide +kernel
theorem dL_law_33 : decode cL_law 33 = .ok (.aload_n 0, 1) := by decide +kernel
theorem dL_law_34 : decode cL_law 34 = .ok (.iload 4, 2) := by decide +kernel
theorem dL_law_36 : decode cL_law 36 = .ok (.iaload, 1) := by decide +kernel
theorem dL_law_37 : decode cL_law 37 = .ok (.bipush 63, 2) := by decide +kernel
theorem dL_law_39 : decode cL_law 39 = .ok (.iand, 1) := by decide +kernel
theorem dL_law_40 : decode cL_law 40 = .ok (.tableswitch 1780 0 58 #[252, 325, 350, 363, 376, 401, 438, 475, 500, 537, 550, 563, 576, 601, 614, 627, 664, 689, 714, 739, 752, 765, 778, 803, 816, 853, 866, 891, 904, 917, 942, 967, 992, 1005, 1030, 1043, 1056, 1081, 1094, 1107, 1120, 1133, 1146, 1255, 1280, 1305, 1371, 1437, 1486, 1523, 1536, 1561, 1598, 1635, 1648, 1661, 1686, 1742, 1767], 252) := by decide +kernel
theorem dL_law_292 : decode cL_law 292 = .ok (.aload_n 1, 1) := by decide +kernel
theorem dL_law_293 : decode cL_law 293 = .ok (.aload_n 0, 1) := by decide +kernel
theorem dL_law_294 : decode cL_law 294 = .ok (.iload 4, 2) := by decide +kernel
theorem dL_law_296 : decode cL_law 296 = .ok (.iconst 1, 1) := by decide +kernel
theorem dL_law_297 : decode cL_law 297 = .ok (.iadd, 1) := by decide +kernel
theorem dL_law_298 : decode cL_law 298 = .ok (.iaload, 1) := by decide +kernel
theorem dL_law_299 : decode cL_law 299 = .ok (.aload_n 0, 1) := by decide +kernel
theorem dL_law_300 : decode cL_law 300 = .ok (.iload 4, 2) := by decide +kernel
theorem dL_law_302 : decode cL_law 302 = .ok (.iconst 2, 1) := by decide +kernel
theorem dL_law_303 : decode cL_law 303 = .ok (.iadd, 1) := by decide +kernel
theorem dL_law_304 : decode cL_law 304 = .ok (.iaload, 1) := by decide +kernel
theorem dL_law_305 : decode cL_law 305 = .ok (.aload_n 0, 1) := by decide +kernel
theorem dL_law_306 : decode cL_law 306 = .ok (.iload 4, 2) := by decide +kernel
theorem dL_law_308 : decode cL_law 308 = .ok (.iconst 3, 1) := by decide +kernel
theorem dL_law_309 : decode cL_law 309 = .ok (.iadd, 1) := by decide +kernel
theorem dL_law_310 : decode cL_law 310 = .ok (.iaload, 1) := by decide +kernel
theorem dL_law_311 : decode cL_law 311 = .ok (.aload_n 0, 1) := by decide +kernel
theorem dL_law_312 : decode cL_law 312 = .ok (.iload 4, 2) := by decide +kernel
theorem dL_law_314 : decode cL_law 314 = .ok (.iconst 4, 1) := by decide +kernel
theorem dL_law_315 : decode cL_law 315 = .ok (.iadd, 1) := by decide +kernel
theorem dL_law_316 : decode cL_law 316 = .ok (.iaload, 1) := by decide +kernel
theorem dL_law_317 : decode cL_law 317 = .ok (.aload_n 0, 1) := by decide +kernel
theorem dL_law_318 : decode cL_law 318 = .ok (.iload 4, 2) := by decide +kernel
theorem dL_law_320 : decode cL_law 320 = .ok (.iconst 5, 1) := by decide +kernel
theorem dL_law_321 : decode cL_law 321 = .ok (.iadd, 1) := by decide +kernel
theorem dL_law_322 : decode cL_law 322 = .ok (.iaload, 1) := by decide +kernel
theorem dL_law_323 : decode cL_law 323 = .ok (.invokevirtual 19, 3) := by decide +kernel
theorem dL_law_326 : decode cL_law 326 = .ok (.aload_n 2, 1) := by decide +kernel
theorem dL_law_327 : decode cL_law 327 = .ok (.aload_n 0, 1) := by decide +kernel
theorem dL_law_328 : decode cL_law 328 = .ok (.iload 4, 2) := by decide +kernel
theorem dL_law_330 : decode cL_law 330 = .ok (.iconst 1, 1) := by decide +kernel
theorem dL_law_331 : decode cL_law 331 = .ok (.iadd, 1) := by decide +kernel
theorem dL_law_332 : decode cL_law 332 = .ok (.iaload, 1) := by decide +kernel
theorem dL_law_333 : decode cL_law 333 = .ok (.aload_n 0, 1) := by decide +kernel
theorem dL_law_334 : decode cL_law 334 = .ok (.iload 4, 2) := by decide +kernel
theorem dL_law_336 : decode cL_law 336 = .ok (.iconst 2, 1) := by decide +kernel
theorem dL_law_337 : decode cL_law 337 = .ok (.iadd, 1) := by decide +kernel
theorem dL_law_338 : decode cL_law 338 = .ok (.iaload, 1) := by decide +kernel
theorem dL_law_339 : decode cL_law 339 = .ok (.aload_n 0, 1) := by decide +kernel
theorem dL_law_340 : decode cL_law 340 = .ok (.iload 4, 2) := by decide +kernel
theorem dL_law_342 : decode cL_law 342 = .ok (.iconst 3, 1) := by decide +kernel
theorem dL_law_343 : decode cL_law 343 = .ok (.iadd, 1) := by decide +kernel
theorem dL_law_344 : decode cL_law 344 = .ok (.iaload, 1) := by decide +kernel
theorem dL_law_345 : decode cL_law 345 = .ok (.aload_n 0, 1) := by decide +kernel
theorem dL_law_346 : decode cL_law 346 = .ok (.iload 4, 2) := by decide +kernel
theorem dL_law_348 : decode cL_law 348 = .ok (.iconst 4, 1) := by decide +kernel
theorem dL_law_349 : decode cL_law 349 = .ok (.iadd, 1) := by decide +kernel
theorem dL_law_350 : decode cL_law 350 = .ok (.iaload, 1) := by decide +kernel
theorem dL_law_351 : decode cL_law 351 = .ok (.aload_n 0, 1) := by decide +kernel
theorem dL_law_352 : decode cL_law 352 = .ok (.iload 4, 2) := by decide +kernel
theorem dL_law_354 : decode cL_law 354 = .ok (.iconst 5, 1) := by decide +kernel
theorem dL_law_355 : decode cL_law 355 = .ok (.iadd, 1) := by decide +kernel
theorem dL_law_356 : decode cL_law 356 = .ok (.iaload, 1) := by decide +kernel
theorem dL_law_357 : decode cL_law 357 = .ok (.invokevirtual 23, 3) := by decide +kernel
theorem dL_law_360 : decode cL_law 360 = .ok (.if_icmp .eq 1460, 3) := by decide +kernel
theorem dL_law_363 : decode cL_law 363 = .ok (.iconst 0, 1) := by decide +kernel
theorem dL_law_364 : decode cL_law 364 = .ok (.ireturn, 1) := by decide +kernel
theorem dL_law_365 : decode cL_law 365 = .ok (.aload_n 1, 1) := by decide +kernel
theorem dL_law_366 : decode cL_law 366 = .ok (.aload_n 0, 1) := by decide +kernel
theorem dL_law_367 : decode cL_law 367 = .ok (.iload 4, 2) := by decide +kernel
theorem dL_law_369 : decode cL_law 369 = .ok (.iconst 1, 1) := by decide +kernel
theorem dL_law_370 : decode cL_law 370 = .ok (.iadd, 1) := by decide +kernel
theorem dL_law_371 : decode cL_law 371 = .ok (.iaload, 1) := by decide +kernel
theorem dL_law_372 : decode cL_law 372 = .ok (.invokevirtual 24, 3) := by decide +kernel
theorem dL_law_375 : decode cL_law 375 = .ok (.aload_n 2, 1) := by decide +kernel
theorem dL_law_376 : decode cL_law 376 = .ok (.aload_n 0, 1) := by decide +kernel
theorem dL_law_377 : decode cL_law 377 = .ok (.iload 4, 2) := by decide +kernel
theorem dL_law_379 : decode cL_law 379 = .ok (.iconst 1, 1) := by decide +kernel
theorem dL_law_380 : decode cL_law 380 = .ok (.iadd, 1) := by decide +kernel
theorem dL_law_381 : decode cL_law 381 = .ok (.iaload, 1) := by decide +kernel
theorem dL_law_382 : decode cL_law 382 = .ok (.invokevirtual 27, 3) := by decide +kernel
theorem dL_law_385 : decode cL_law 385 = .ok (.if_icmp .eq 1435, 3) := by decide +kernel
theorem dL_law_388 : decode cL_law 388 = .ok (.iconst 0, 1) := by decide +kernel
theorem dL_law_389 : decode cL_law 389 = .ok (.ireturn, 1) := by decide +kernel
theorem dL_law_390 : decode cL_law 390 = .ok (.aload_n 1, 1) := by decide +kernel
theorem dL_law_391 : decode cL_law 391 = .ok (.invokevirtual 28, 3) := by decide +kernel
theorem dL_law_394 : decode cL_law 394 = .ok (.aload_n 2, 1) := by decide +kernel
theorem dL_law_395 : decode cL_law 395 = .ok (.invokevirtual 32, 3) := by decide +kernel
theorem dL_law_398 : decode cL_law 398 = .ok (.if_icmp .eq 1422, 3) := by decide +kernel
theorem dL_law_401 : decode cL_law 401 = .ok (.iconst 0, 1) := by decide +kernel
theorem dL_law_402 : decode cL_law 402 = .ok (.ireturn, 1) := by decide +kernel
theorem dL_law_403 : decode cL_law 403 = .ok (.aload_n 1, 1) := by decide +kernel
theorem dL_law_404 : decode cL_law 404 = .ok (.invokevirtual 33, 3) := by decide +kernel
theorem dL_law_407 : decode cL_law 407 = .ok (.aload_n 2, 1) := by decide +kernel
theorem dL_law_408 : decode cL_law 408 = .ok (.invokevirtual 36, 3) := by decide +kernel
theorem dL_law_411 : decode cL_law 411 = .ok (.if_icmp .eq 1409, 3) := by decide +kernel
theorem dL_law_414 : decode cL_law 414 = .ok (.iconst 0, 1) := by decide +kernel
theorem dL_law_415 : decode cL_law 415 = .ok (.ireturn, 1) := by decide +kernel
theorem dL_law_416 : decode cL_law 416 = .ok (.aload_n 1, 1) := by decide +kernel
theorem dL_law_417 : decode cL_law 417 = .ok (.aload_n 0, 1) := by decide +kernel
theorem dL_law_418 : decode cL_law 418 = .ok (.iload 4, 2) := by decide +kernel
theorem dL_law_420 : decode cL_law 420 = .ok (.iconst 1, 1) := by decide +kernel
theorem dL_law_421 : decode cL_law 421 = .ok (.iadd, 1) := by decide +kernel
theorem dL_law_422 : decode cL_law 422 = .ok (.iaload, 1) := by decide +kernel
theorem dL_law_423 : decode cL_law 423 = .ok (.invokevirtual 37, 3) := by decide +kernel
theorem dL_law_426 : decode cL_law 426 = .ok (.aload_n 2, 1) := by decide +kernel
theorem dL_law_427 : decode cL_law 427 = .ok (.aload_n 0, 1) := by decide +kernel
theorem dL_law_428 : decode cL_law 428 = .ok (.iload 4, 2) := by decide +kernel
theorem dL_law_430 : decode cL_law 430 = .ok (.iconst 1, 1) := by decide +kernel
theorem dL_law_431 : decode cL_law 431 = .ok (.iadd, 1) := by decide +kernel
theorem dL_law_432 : decode cL_law 432 = .ok (.iaload, 1) := by decide +kernel
theorem dL_law_433 : decode cL_law 433 = .ok (.invokevirtual 40, 3) := by decide +kernel
theorem dL_law_436 : decode cL_law 436 = .ok (.if_icmp .eq 1384, 3) := by decide +kernel
theorem dL_law_439 : decode cL_law 439 = .ok (.iconst 0, 1) := by decide +kernel
theorem dL_law_440 : decode cL_law 440 = .ok (.ireturn, 1) := by decide +kernel
theorem dL_law_441 : decode cL_law 441 = .ok (.aload_n 1, 1) := by decide +kernel
theorem dL_law_442 : decode cL_law 442 = .ok (.aload_n 0, 1) := by decide +kernel
theorem dL_law_443 : decode cL_law 443 = .ok (.iload 4, 2) := by decide +kernel
theorem dL_law_445 : decode cL_law 445 = .ok (.iconst 1, 1) := by decide +kernel
theorem dL_law_446 : decode cL_law 446 = .ok (.iadd, 1) := by decide +kernel
theorem dL_law_447 : decode cL_law 447 = .ok (.iaload, 1) := by decide +kernel
theorem dL_law_448 : decode cL_law 448 = .ok (.aload_n 0, 1) := by decide +kernel
theorem dL_law_449 : decode cL_law 449 = .ok (.iload 4, 2) := by decide +kernel
theorem dL_law_451 : decode cL_law 451 = .ok (.iconst 2, 1) := by decide +kernel
theorem dL_law_452 : decode cL_law 452 = .ok (.iadd, 1) := by decide +kernel
theorem dL_law_453 : decode cL_law 453 = .ok (.iaload, 1) := by decide +kernel
theorem dL_law_454 : decode cL_law 454 = .ok (.invokevirtual 41, 3) := by decide +kernel
theorem dL_law_457 : decode cL_law 457 = .ok (.aload_n 2, 1) := by decide +kernel
theorem dL_law_458 : decode cL_law 458 = .ok (.aload_n 0, 1) := by decide +kernel
theorem dL_law_459 : decode cL_law 459 = .ok (.iload 4, 2) := by decide +kernel
theorem dL_law_461 : decode cL_law 461 = .ok (.iconst 1, 1) := by decide +kernel
theorem dL_law_462 : decode cL_law 462 = .ok (.iadd, 1) := by decide +kernel
theorem dL_law_463 : decode cL_law 463 = .ok (.iaload, 1) := by decide +kernel
theorem dL_law_464 : decode cL_law 464 = .ok (.aload_n 0, 1) := by decide +kernel
theorem dL_law_465 : decode cL_law 465 = .ok (.iload 4, 2) := by decide +kernel
theorem dL_law_467 : decode cL_law 467 = .ok (.iconst 2, 1) := by decide +kernel
theorem dL_law_468 : decode cL_law 468 = .ok (.iadd, 1) := by decide +kernel
theorem dL_law_469 : decode cL_law 469 = .ok (.iaload, 1) := by decide +kernel
theorem dL_law_470 : decode cL_law 470 = .ok (.invokevirtual 45, 3) := by decide +kernel
theorem dL_law_473 : decode cL_law 473 = .ok (.if_icmp .eq 1347, 3) := by decide +kernel
theorem dL_law_476 : decode cL_law 476 = .ok (.iconst 0, 1) := by decide +kernel
theorem dL_law_477 : decode cL_law 477 = .ok (.ireturn, 1) := by decide +kernel
theorem dL_law_478 : decode cL_law 478 = .ok (.aload_n 1, 1) := by decide +kernel
theorem dL_law_479 : decode cL_law 479 = .ok (.aload_n 0, 1) := by decide +kernel
theorem dL_law_480 : decode cL_law 480 = .ok (.iload 4, 2) := by decide +kernel
theorem dL_law_482 : decode cL_law 482 = .ok (.iconst 1, 1) := by decide +kernel
theorem dL_law_483 : decode cL_law 483 = .ok (.iadd, 1) := by decide +kernel
theorem dL_law_484 : decode cL_law 484 = .ok (.iaload, 1) := by decide +kernel
theorem dL_law_485 : decode cL_law 485 = .ok (.aload_n 0, 1) := by decide +kernel
theorem dL_law_486 : decode cL_law 486 = .ok (.iload 4, 2) := by decide +kernel
theorem dL_law_488 : decode cL_law 488 = .ok (.iconst 2, 1) := by decide +kernel
theorem dL_law_489 : decode cL_law 489 = .ok (.iadd, 1) := by decide +kernel
theorem dL_law_490 : decode cL_law 490 = .ok (.iaload, 1) := by decide +kernel
theorem dL_law_491 : decode cL_law 491 = .ok (.invokevirtual 46, 3) := by decide +kernel
theorem dL_law_494 : decode cL_law 494 = .ok (.aload_n 2, 1) := by decide +kernel
theorem dL_law_495 : decode cL_law 495 = .ok (.aload_n 0, 1) := by decide +kernel
theorem dL_law_496 : decode cL_law 496 = .ok (.iload 4, 2) := by decide +kernel
theorem dL_law_498 : decode cL_law 498 = .ok (.iconst 1, 1) := by decide +kernel
theorem dL_law_499 : decode cL_law 499 = .ok (.iadd, 1) := by decide +kernel
theorem dL_law_500 : decode cL_law 500 = .ok (.iaload, 1) := by decide +kernel
theorem dL_law_501 : decode cL_law 501 = .ok (.aload_n 0, 1) := by decide +kernel
theorem dL_law_502 : decode cL_law 502 = .ok (.iload 4, 2) := by decide +kernel
theorem dL_law_504 : decode cL_law 504 = .ok (.iconst 2, 1) := by decide +kernel
theorem dL_law_505 : decode cL_law 505 = .ok (.iadd, 1) := by decide +kernel
theorem dL_law_506 : decode cL_law 506 = .ok (.iaload, 1) := by decide +kernel
theorem dL_law_507 : decode cL_law 507 = .ok (.invokevirtual 49, 3) := by decide +kernel
theorem dL_law_510 : decode cL_law 510 = .ok (.if_icmp .eq 1310, 3) := by decide +kernel
theorem dL_law_513 : decode cL_law 513 = .ok (.iconst 0, 1) := by decide +kernel
theorem dL_law_514 : decode cL_law 514 = .ok (.ireturn, 1) := by decide +kernel
theorem dL_law_515 : decode cL_law 515 = .ok (.aload_n 1, 1) := by decide +kernel
theorem dL_law_516 : decode cL_law 516 = .ok (.aload_n 0, 1) := by decide +kernel
theorem dL_law_517 : decode cL_law 517 = .ok (.iload 4, 2) := by decide +kernel
theorem dL_law_519 : decode cL_law 519 = .ok (.iconst 1, 1) := by decide +kernel
theorem dL_law_520 : decode cL_law 520 = .ok (.iadd, 1) := by decide +kernel
theorem dL_law_521 : decode cL_law 521 = .ok (.iaload, 1) := by decide +kernel
theorem dL_law_522 : decode cL_law 522 = .ok (.invokevirtual 50, 3) := by decide +kernel
theorem dL_law_525 : decode cL_law 525 = .ok (.aload_n 2, 1) := by decide +kernel
theorem dL_law_526 : decode cL_law 526 = .ok (.aload_n 0, 1) := by decide +kernel
theorem dL_law_527 : decode cL_law 527 = .ok (.iload 4, 2) := by decide +kernel
theorem dL_law_529 : decode cL_law 529 = .ok (.iconst 1, 1) := by decide +kernel
theorem dL_law_530 : decode cL_law 530 = .ok (.iadd, 1) := by decide +kernel
theorem dL_law_531 : decode cL_law 531 = .ok (.iaload, 1) := by decide +kernel
theorem dL_law_532 : decode cL_law 532 = .ok (.invokevirtual 53, 3) := by decide +kernel
theorem dL_law_535 : decode cL_law 535 = .ok (.if_icmp .eq 1285, 3) := by decide +kernel
theorem dL_law_538 : decode cL_law 538 = .ok (.iconst 0, 1) := by decide +kernel
theorem dL_law_539 : decode cL_law 539 = .ok (.ireturn, 1) := by decide +kernel
theorem dL_law_540 : decode cL_law 540 = .ok (.aload_n 1, 1) := by decide +kernel
theorem dL_law_541 : decode cL_law 541 = .ok (.aload_n 0, 1) := by decide +kernel
theorem dL_law_542 : decode cL_law 542 = .ok (.iload 4, 2) := by decide +kernel
theorem dL_law_544 : decode cL_law 544 = .ok (.iconst 1, 1) := by decide +kernel
theorem dL_law_545 : decode cL_law 545 = .ok (.iadd, 1) := by decide +kernel
theorem dL_law_546 : decode cL_law 546 = .ok (.iaload, 1) := by decide +kernel
theorem dL_law_547 : decode cL_law 547 = .ok (.aload_n 0, 1) := by decide +kernel
theorem dL_law_548 : decode cL_law 548 = .ok (.iload 4, 2) := by decide +kernel
theorem dL_law_550 : decode cL_law 550 = .ok (.iconst 2, 1) := by decide +kernel
theorem dL_law_551 : decode cL_law 551 = .ok (.iadd, 1) := by decide +kernel
theorem dL_law_552 : decode cL_law 552 = .ok (.iaload, 1) := by decide +kernel
theorem dL_law_553 : decode cL_law 553 = .ok (.invokevirtual 54, 3) := by decide +kernel
theorem dL_law_556 : decode cL_law 556 = .ok (.aload_n 2, 1) := by decide +kernel
theorem dL_law_557 : decode cL_law 557 = .ok (.aload_n 0, 1) := by decide +kernel
theorem dL_law_558 : decode cL_law 558 = .ok (.iload 4, 2) := by decide +kernel
theorem dL_law_560 : decode cL_law 560 = .ok (.iconst 1, 1) := by decide +kernel
theorem dL_law_561 : decode cL_law 561 = .ok (.iadd, 1) := by decide +kernel
theorem dL_law_562 : decode cL_law 562 = .ok (.iaload, 1) := by decide +kernel
theorem dL_law_563 : decode cL_law 563 = .ok (.aload_n 0, 1) := by decide +kernel
theorem dL_law_564 : decode cL_law 564 = .ok (.iload 4, 2) := by decide +kernel
theorem dL_law_566 : decode cL_law 566 = .ok (.iconst 2, 1) := by decide +kernel
theorem dL_law_567 : decode cL_law 567 = .ok (.iadd, 1) := by decide +kernel
theorem dL_law_568 : decode cL_law 568 = .ok (.iaload, 1) := by decide +kernel
theorem dL_law_569 : decode cL_law 569 = .ok (.invokevirtual 57, 3) := by decide +kernel
theorem dL_law_572 : decode cL_law 572 = .ok (.if_icmp .eq 1248, 3) := by decide +kernel
theorem dL_law_575 : decode cL_law 575 = .ok (.iconst 0, 1) := by decide +kernel
theorem dL_law_576 : decode cL_law 576 = .ok (.ireturn, 1) := by decide +kernel
theorem dL_law_577 : decode cL_law 577 = .ok (.aload_n 1, 1) := by decide +kernel
theorem dL_law_578 : decode cL_law 578 = .ok (.invokevirtual 58, 3) := by decide +kernel
theorem dL_law_581 : decode cL_law 581 = .ok (.aload_n 2, 1) := by decide +kernel
theorem dL_law_582 : decode cL_law 582 = .ok (.invokevirtual 61, 3) := by decide +kernel
theorem dL_law_585 : decode cL_law 585 = .ok (.if_icmp .eq 1235, 3) := by decide +kernel
theorem dL_law_588 : decode cL_law 588 = .ok (.iconst 0, 1) := by decide +kernel
theorem dL_law_589 : decode cL_law 589 = .ok (.ireturn, 1) := by decide +kernel
theorem dL_law_590 : decode cL_law 590 = .ok (.aload_n 1, 1) := by decide +kernel
theorem dL_law_591 : decode cL_law 591 = .ok (.invokevirtual 62, 3) := by decide +kernel
theorem dL_law_594 : decode cL_law 594 = .ok (.aload_n 2, 1) := by decide +kernel
theorem dL_law_595 : decode cL_law 595 = .ok (.invokevirtual 65, 3) := by decide +kernel
theorem dL_law_598 : decode cL_law 598 = .ok (.if_icmp .eq 1222, 3) := by decide +kernel
theorem dL_law_601 : decode cL_law 601 = .ok (.iconst 0, 1) := by decide +kernel
theorem dL_law_602 : decode cL_law 602 = .ok (.ireturn, 1) := by decide +kernel
theorem dL_law_603 : decode cL_law 603 = .ok (.aload_n 1, 1) := by decide +kernel
theorem dL_law_604 : decode cL_law 604 = .ok (.invokevirtual 66, 3) := by decide +kernel
theorem dL_law_607 : decode cL_law 607 = .ok (.aload_n 2, 1) := by decide +kernel
theorem dL_law_608 : decode cL_law 608 = .ok (.invokevirtual 69, 3) := by decide +kernel
theorem dL_law_611 : decode cL_law 611 = .ok (.if_icmp .eq 1209, 3) := by decide +kernel
theorem dL_law_614 : decode cL_law 614 = .ok (.iconst 0, 1) := by decide +kernel
theorem dL_law_615 : decode cL_law 615 = .ok (.ireturn, 1) := by decide +kernel
theorem dL_law_616 : decode cL_law 616 = .ok (.aload_n 1, 1) := by decide +kernel
theorem dL_law_617 : decode cL_law 617 = .ok (.aload_n 0, 1) := by decide +kernel
theorem dL_law_618 : decode cL_law 618 = .ok (.iload 4, 2) := by decide +kernel
theorem dL_law_620 : decode cL_law 620 = .ok (.iconst 1, 1) := by decide +kernel
theorem dL_law_621 : decode cL_law 621 = .ok (.iadd, 1) := by decide +kernel
theorem dL_law_622 : decode cL_law 622 = .ok (.iaload, 1) := by decide +kernel
theorem dL_law_623 : decode cL_law 623 = .ok (.invokevirtual 70, 3) := by decide +kernel
theorem dL_law_626 : decode cL_law 626 = .ok (.aload_n 2, 1) := by decide +kernel
theorem dL_law_627 : decode cL_law 627 = .ok (.aload_n 0, 1) := by decide +kernel
theorem dL_law_628 : decode cL_law 628 = .ok (.iload 4, 2) := by decide +kernel
theorem dL_law_630 : decode cL_law 630 = .ok (.iconst 1, 1) := by decide +kernel
theorem dL_law_631 : decode cL_law 631 = .ok (.iadd, 1) := by decide +kernel
theorem dL_law_632 : decode cL_law 632 = .ok (.iaload, 1) := by decide +kernel
theorem dL_law_633 : decode cL_law 633 = .ok (.invokevirtual 73, 3) := by decide +kernel
theorem dL_law_636 : decode cL_law 636 = .ok (.if_icmp .eq 1184, 3) := by decide +kernel
theorem dL_law_639 : decode cL_law 639 = .ok (.iconst 0, 1) := by decide +kernel
theorem dL_law_640 : decode cL_law 640 = .ok (.ireturn, 1) := by decide +kernel
theorem dL_law_641 : decode cL_law 641 = .ok (.aload_n 1, 1) := by decide +kernel
theorem dL_law_642 : decode cL_law 642 = .ok (.invokevirtual 74, 3) := by decide +kernel
theorem dL_law_645 : decode cL_law 645 = .ok (.aload_n 2, 1) := by decide +kernel
theorem dL_law_646 : decode cL_law 646 = .ok (.invokevirtual 77, 3) := by decide +kernel
theorem dL_law_649 : decode cL_law 649 = .ok (.if_icmp .eq 1171, 3) := by decide +kernel
theorem dL_law_652 : decode cL_law 652 = .ok (.iconst 0, 1) := by decide +kernel
theorem dL_law_653 : decode cL_law 653 = .ok (.ireturn, 1) := by decide +kernel
theorem dL_law_654 : decode cL_law 654 = .ok (.aload_n 1, 1) := by decide +kernel
theorem dL_law_655 : decode cL_law 655 = .ok (.invokevirtual 78, 3) := by decide +kernel
theorem dL_law_658 : decode cL_law 658 = .ok (.aload_n 2, 1) := by decide +kernel
theorem dL_law_659 : decode cL_law 659 = .ok (.invokevirtual 81, 3) := by decide +kernel
theorem dL_law_662 : decode cL_law 662 = .ok (.if_icmp .eq 1158, 3) := by decide +kernel
theorem dL_law_665 : decode cL_law 665 = .ok (.iconst 0, 1) := by decide +kernel
theorem dL_law_666 : decode cL_law 666 = .ok (.ireturn, 1) := by decide +kernel
theorem dL_law_667 : decode cL_law 667 = .ok (.aload_n 1, 1) := by decide +kernel
theorem dL_law_668 : decode cL_law 668 = .ok (.aload_n 0, 1) := by decide +kernel
theorem dL_law_669 : decode cL_law 669 = .ok (.iload 4, 2) := by decide +kernel
theorem dL_law_671 : decode cL_law 671 = .ok (.iconst 1, 1) := by decide +kernel
theorem dL_law_672 : decode cL_law 672 = .ok (.iadd, 1) := by decide +kernel
theorem dL_law_673 : decode cL_law 673 = .ok (.iaload, 1) := by decide +kernel
theorem dL_law_674 : decode cL_law 674 = .ok (.aload_n 0, 1) := by decide +kernel
theorem dL_law_675 : decode cL_law 675 = .ok (.iload 4, 2) := by decide +kernel
theorem dL_law_677 : decode cL_law 677 = .ok (.iconst 2, 1) := by decide +kernel
theorem dL_law_678 : decode cL_law 678 = .ok (.iadd, 1) := by decide +kernel
theorem dL_law_679 : decode cL_law 679 = .ok (.iaload, 1) := by decide +kernel
theorem dL_law_680 : decode cL_law 680 = .ok (.invokevirtual 82, 3) := by decide +kernel
theorem dL_law_683 : decode cL_law 683 = .ok (.aload_n 2, 1) := by decide +kernel
theorem dL_law_684 : decode cL_law 684 = .ok (.aload_n 0, 1) := by decide +kernel
theorem dL_law_685 : decode cL_law 685 = .ok (.iload 4, 2) := by decide +kernel
theorem dL_law_687 : decode cL_law 687 = .ok (.iconst 1, 1) := by decide +kernel
theorem dL_law_688 : decode cL_law 688 = .ok (.iadd, 1) := by decide +kernel
theorem dL_law_689 : decode cL_law 689 = .ok (.iaload, 1) := by decide +kernel
theorem dL_law_690 : decode cL_law 690 = .ok (.aload_n 0, 1) := by decide +kernel
theorem dL_law_691 : decode cL_law 691 = .ok (.iload 4, 2) := by decide +kernel
theorem dL_law_693 : decode cL_law 693 = .ok (.iconst 2, 1) := by decide +kernel
theorem dL_law_694 : decode cL_law 694 = .ok (.iadd, 1) := by decide +kernel
theorem dL_law_695 : decode cL_law 695 = .ok (.iaload, 1) := by decide +kernel
theorem dL_law_696 : decode cL_law 696 = .ok (.invokevirtual 85, 3) := by decide +kernel
theorem dL_law_699 : decode cL_law 699 = .ok (.if_icmp .eq 1121, 3) := by decide +kernel
theorem dL_law_702 : decode cL_law 702 = .ok (.iconst 0, 1) := by decide +kernel
theorem dL_law_703 : decode cL_law 703 = .ok (.ireturn, 1) := by decide +kernel
theorem dL_law_704 : decode cL_law 704 = .ok (.aload_n 1, 1) := by decide +kernel
theorem dL_law_705 : decode cL_law 705 = .ok (.aload_n 0, 1) := by decide +kernel
theorem dL_law_706 : decode cL_law 706 = .ok (.iload 4, 2) := by decide +kernel
theorem dL_law_708 : decode cL_law 708 = .ok (.iconst 1, 1) := by decide +kernel
theorem dL_law_709 : decode cL_law 709 = .ok (.iadd, 1) := by decide +kernel
theorem dL_law_710 : decode cL_law 710 = .ok (.iaload, 1) := by decide +kernel
theorem dL_law_711 : decode cL_law 711 = .ok (.invokevirtual 86, 3) := by decide +kernel
theorem dL_law_714 : decode cL_law 714 = .ok (.aload_n 2, 1) := by decide +kernel
theorem dL_law_715 : decode cL_law 715 = .ok (.aload_n 0, 1) := by decide +kernel
theorem dL_law_716 : decode cL_law 716 = .ok (.iload 4, 2) := by decide +kernel
theorem dL_law_718 : decode cL_law 718 = .ok (.iconst 1, 1) := by decide +kernel
theorem dL_law_719 : decode cL_law 719 = .ok (.iadd, 1) := by decide +kernel
theorem dL_law_720 : decode cL_law 720 = .ok (.iaload, 1) := by decide +kernel
theorem dL_law_721 : decode cL_law 721 = .ok (.invokevirtual 89, 3) := by decide +kernel
theorem dL_law_724 : decode cL_law 724 = .ok (.if_icmp .eq 1096, 3) := by decide +kernel
theorem dL_law_727 : decode cL_law 727 = .ok (.iconst 0, 1) := by decide +kernel
theorem dL_law_728 : decode cL_law 728 = .ok (.ireturn, 1) := by decide +kernel
theorem dL_law_729 : decode cL_law 729 = .ok (.aload_n 1, 1) := by decide +kernel
theorem dL_law_730 : decode cL_law 730 = .ok (.aload_n 0, 1) := by decide +kernel
theorem dL_law_731 : decode cL_law 731 = .ok (.iload 4, 2) := by decide +kernel
theorem dL_law_733 : decode cL_law 733 = .ok (.iconst 1, 1) := by decide +kernel
theorem dL_law_734 : decode cL_law 734 = .ok (.iadd, 1) := by decide +kernel
theorem dL_law_735 : decode cL_law 735 = .ok (.iaload, 1) := by decide +kernel
theorem dL_law_736 : decode cL_law 736 = .ok (.invokevirtual 90, 3) := by decide +kernel
theorem dL_law_739 : decode cL_law 739 = .ok (.aload_n 2, 1) := by decide +kernel
theorem dL_law_740 : decode cL_law 740 = .ok (.aload_n 0, 1) := by decide +kernel
theorem dL_law_741 : decode cL_law 741 = .ok (.iload 4, 2) := by decide +kernel
theorem dL_law_743 : decode cL_law 743 = .ok (.iconst 1, 1) := by decide +kernel
theorem dL_law_744 : decode cL_law 744 = .ok (.iadd, 1) := by decide +kernel
theorem dL_law_745 : decode cL_law 745 = .ok (.iaload, 1) := by decide +kernel
theorem dL_law_746 : decode cL_law 746 = .ok (.invokevirtual 93, 3) := by decide +kernel
theorem dL_law_749 : decode cL_law 749 = .ok (.if_icmp .eq 1071, 3) := by decide +kernel
theorem dL_law_752 : decode cL_law 752 = .ok (.iconst 0, 1) := by decide +kernel
theorem dL_law_753 : decode cL_law 753 = .ok (.ireturn, 1) := by decide +kernel
theorem dL_law_754 : decode cL_law 754 = .ok (.aload_n 1, 1) := by decide +kernel
theorem dL_law_755 : decode cL_law 755 = .ok (.aload_n 0, 1) := by decide +kernel
theorem dL_law_756 : decode cL_law 756 = .ok (.iload 4, 2) := by decide +kernel
theorem dL_law_758 : decode cL_law 758 = .ok (.iconst 1, 1) := by decide +kernel
theorem dL_law_759 : decode cL_law 759 = .ok (.iadd, 1) := by decide +kernel
theorem dL_law_760 : decode cL_law 760 = .ok (.iaload, 1) := by decide +kernel
theorem dL_law_761 : decode cL_law 761 = .ok (.invokevirtual 94, 3) := by decide +kernel
theorem dL_law_764 : decode cL_law 764 = .ok (.aload_n 2, 1) := by decide +kernel
theorem dL_law_765 : decode cL_law 765 = .ok (.aload_n 0, 1) := by decide +kernel
theorem dL_law_766 : decode cL_law 766 = .ok (.iload 4, 2) := by decide +kernel
theorem dL_law_768 : decode cL_law 768 = .ok (.iconst 1, 1) := by decide +kernel
theorem dL_law_769 : decode cL_law 769 = .ok (.iadd, 1) := by decide +kernel
theorem dL_law_770 : decode cL_law 770 = .ok (.iaload, 1) := by decide +kernel
theorem dL_law_771 : decode cL_law 771 = .ok (.invokevirtual 97, 3) := by decide +kernel
theorem dL_law_774 : decode cL_law 774 = .ok (.if_icmp .eq 1046, 3) := by decide +kernel
theorem dL_law_777 : decode cL_law 777 = .ok (.iconst 0, 1) := by decide +kernel
theorem dL_law_778 : decode cL_law 778 = .ok (.ireturn, 1) := by decide +kernel
theorem dL_law_779 : decode cL_law 779 = .ok (.aload_n 1, 1) := by decide +kernel
theorem dL_law_780 : decode cL_law 780 = .ok (.invokevirtual 98, 3) := by decide +kernel
theorem dL_law_783 : decode cL_law 783 = .ok (.aload_n 2, 1) := by decide +kernel
theorem dL_law_784 : decode cL_law 784 = .ok (.invokevirtual 101, 3) := by decide +kernel
theorem dL_law_787 : decode cL_law 787 = .ok (.if_icmp .eq 1033, 3) := by decide +kernel
theorem dL_law_790 : decode cL_law 790 = .ok (.iconst 0, 1) := by decide +kernel
theorem dL_law_791 : decode cL_law 791 = .ok (.ireturn, 1) := by decide +kernel
theorem dL_law_792 : decode cL_law 792 = .ok (.aload_n 1, 1) := by decide +kernel
theorem dL_law_793 : decode cL_law 793 = .ok (.invokevirtual 102, 3) := by decide +kernel
theorem dL_law_796 : decode cL_law 796 = .ok (.aload_n 2, 1) := by decide +kernel
theorem dL_law_797 : decode cL_law 797 = .ok (.invokevirtual 105, 3) := by decide +kernel
theorem dL_law_800 : decode cL_law 800 = .ok (.if_icmp .eq 1020, 3) := by decide +kernel
theorem dL_law_803 : decode cL_law 803 = .ok (.iconst 0, 1) := by decide +kernel
theorem dL_law_804 : decode cL_law 804 = .ok (.ireturn, 1) := by decide +kernel
theorem dL_law_805 : decode cL_law 805 = .ok (.aload_n 1, 1) := by decide +kernel
theorem dL_law_806 : decode cL_law 806 = .ok (.invokevirtual 106, 3) := by decide +kernel
theorem dL_law_809 : decode cL_law 809 = .ok (.aload_n 2, 1) := by decide +kernel
theorem dL_law_810 : decode cL_law 810 = .ok (.invokevirtual 109, 3) := by decide +kernel
theorem dL_law_813 : decode cL_law 813 = .ok (.if_icmp .eq 1007, 3) := by decide +kernel
theorem dL_law_816 : decode cL_law 816 = .ok (.iconst 0, 1) := by decide +kernel
theorem dL_law_817 : decode cL_law 817 = .ok (.ireturn, 1) := by decide +kernel
theorem dL_law_818 : decode cL_law 818 = .ok (.aload_n 1, 1) := by decide +kernel
theorem dL_law_819 : decode cL_law 819 = .ok (.aload_n 0, 1) := by decide +kernel
theorem dL_law_820 : decode cL_law 820 = .ok (.iload 4, 2) := by decide +kernel
theorem dL_law_822 : decode cL_law 822 = .ok (.iconst 1, 1) := by decide +kernel
theorem dL_law_823 : decode cL_law 823 = .ok (.iadd, 1) := by decide +kernel
theorem dL_law_824 : decode cL_law 824 = .ok (.iaload, 1) := by decide +kernel
theorem dL_law_825 : decode cL_law 825 = .ok (.invokevirtual 110, 3) := by decide +kernel
theorem dL_law_828 : decode cL_law 828 = .ok (.aload_n 2, 1) := by decide +kernel
theorem dL_law_829 : decode cL_law 829 = .ok (.aload_n 0, 1) := by decide +kernel
theorem dL_law_830 : decode cL_law 830 = .ok (.iload 4, 2) := by decide +kernel
theorem dL_law_832 : decode cL_law 832 = .ok (.iconst 1, 1) := by decide +kernel
theorem dL_law_833 : decode cL_law 833 = .ok (.iadd, 1) := by decide +kernel
theorem dL_law_834 : decode cL_law 834 = .ok (.iaload, 1) := by decide +kernel
theorem dL_law_835 : decode cL_law 835 = .ok (.invokevirtual 113, 3) := by decide +kernel
theorem dL_law_838 : decode cL_law 838 = .ok (.if_icmp .eq 982, 3) := by decide +kernel
theorem dL_law_841 : decode cL_law 841 = .ok (.iconst 0, 1) := by decide +kernel
theorem dL_law_842 : decode cL_law 842 = .ok (.ireturn, 1) := by decide +kernel
theorem dL_law_843 : decode cL_law 843 = .ok (.aload_n 1, 1) := by decide +kernel
theorem dL_law_844 : decode cL_law 844 = .ok (.invokevirtual 114, 3) := by decide +kernel
theorem dL_law_847 : decode cL_law 847 = .ok (.aload_n 2, 1) := by decide +kernel
theorem dL_law_848 : decode cL_law 848 = .ok (.invokevirtual 117, 3) := by decide +kernel
theorem dL_law_851 : decode cL_law 851 = .ok (.if_icmp .eq 969, 3) := by decide +kernel
theorem dL_law_854 : decode cL_law 854 = .ok (.iconst 0, 1) := by decide +kernel
theorem dL_law_855 : decode cL_law 855 = .ok (.ireturn, 1) := by decide +kernel
theorem dL_law_856 : decode cL_law 856 = .ok (.aload_n 1, 1) := by decide +kernel
theorem dL_law_857 : decode cL_law 857 = .ok (.aload_n 0, 1) := by decide +kernel
theorem dL_law_858 : decode cL_law 858 = .ok (.iload 4, 2) := by decide +kernel
theorem dL_law_860 : decode cL_law 860 = .ok (.iconst 1, 1) := by decide +kernel
theorem dL_law_861 : decode cL_law 861 = .ok (.iadd, 1) := by decide +kernel
theorem dL_law_862 : decode cL_law 862 = .ok (.iaload, 1) := by decide +kernel
theorem dL_law_863 : decode cL_law 863 = .ok (.aload_n 0, 1) := by decide +kernel
theorem dL_law_864 : decode cL_law 864 = .ok (.iload 4, 2) := by decide +kernel
theorem dL_law_866 : decode cL_law 866 = .ok (.iconst 2, 1) := by decide +kernel
theorem dL_law_867 : decode cL_law 867 = .ok (.iadd, 1) := by decide +kernel
theorem dL_law_868 : decode cL_law 868 = .ok (.iaload, 1) := by decide +kernel
theorem dL_law_869 : decode cL_law 869 = .ok (.invokevirtual 118, 3) := by decide +kernel
theorem dL_law_872 : decode cL_law 872 = .ok (.aload_n 2, 1) := by decide +kernel
theorem dL_law_873 : decode cL_law 873 = .ok (.aload_n 0, 1) := by decide +kernel
theorem dL_law_874 : decode cL_law 874 = .ok (.iload 4, 2) := by decide +kernel
theorem dL_law_876 : decode cL_law 876 = .ok (.iconst 1, 1) := by decide +kernel
theorem dL_law_877 : decode cL_law 877 = .ok (.iadd, 1) := by decide +kernel
theorem dL_law_878 : decode cL_law 878 = .ok (.iaload, 1) := by decide +kernel
theorem dL_law_879 : decode cL_law 879 = .ok (.aload_n 0, 1) := by decide +kernel
theorem dL_law_880 : decode cL_law 880 = .ok (.iload 4, 2) := by decide +kernel
theorem dL_law_882 : decode cL_law 882 = .ok (.iconst 2, 1) := by decide +kernel
theorem dL_law_883 : decode cL_law 883 = .ok (.iadd, 1) := by decide +kernel
theorem dL_law_884 : decode cL_law 884 = .ok (.iaload, 1) := by decide +kernel
theorem dL_law_885 : decode cL_law 885 = .ok (.invokevirtual 121, 3) := by decide +kernel
theorem dL_law_888 : decode cL_law 888 = .ok (.if_icmp .eq 932, 3) := by decide +kernel
theorem dL_law_891 : decode cL_law 891 = .ok (.iconst 0, 1) := by decide +kernel
theorem dL_law_892 : decode cL_law 892 = .ok (.ireturn, 1) := by decide +kernel
theorem dL_law_893 : decode cL_law 893 = .ok (.aload_n 1, 1) := by decide +kernel
theorem dL_law_894 : decode cL_law 894 = .ok (.invokevirtual 122, 3) := by decide +kernel
theorem dL_law_897 : decode cL_law 897 = .ok (.aload_n 2, 1) := by decide +kernel
theorem dL_law_898 : decode cL_law 898 = .ok (.invokevirtual 125, 3) := by decide +kernel
theorem dL_law_901 : decode cL_law 901 = .ok (.if_icmp .eq 919, 3) := by decide +kernel
theorem dL_law_904 : decode cL_law 904 = .ok (.iconst 0, 1) := by decide +kernel
theorem dL_law_905 : decode cL_law 905 = .ok (.ireturn, 1) := by decide +kernel
theorem dL_law_906 : decode cL_law 906 = .ok (.aload_n 1, 1) := by decide +kernel
theorem dL_law_907 : decode cL_law 907 = .ok (.aload_n 0, 1) := by decide +kernel
theorem dL_law_908 : decode cL_law 908 = .ok (.iload 4, 2) := by decide +kernel
theorem dL_law_910 : decode cL_law 910 = .ok (.iconst 1, 1) := by decide +kernel
theorem dL_law_911 : decode cL_law 911 = .ok (.iadd, 1) := by decide +kernel
theorem dL_law_912 : decode cL_law 912 = .ok (.iaload, 1) := by decide +kernel
theorem dL_law_913 : decode cL_law 913 = .ok (.invokevirtual 126, 3) := by decide +kernel
theorem dL_law_916 : decode cL_law 916 = .ok (.aload_n 2, 1) := by decide +kernel
theorem dL_law_917 : decode cL_law 917 = .ok (.aload_n 0, 1) := by decide +kernel
theorem dL_law_918 : decode cL_law 918 = .ok (.iload 4, 2) := by decide +kernel
theorem dL_law_920 : decode cL_law 920 = .ok (.iconst 1, 1) := by decide +kernel
theorem dL_law_921 : decode cL_law 921 = .ok (.iadd, 1) := by decide +kernel
theorem dL_law_922 : decode cL_law 922 = .ok (.iaload, 1) := by decide +kernel
theorem dL_law_923 : decode cL_law 923 = .ok (.invokevirtual 129, 3) := by decide +kernel
theorem dL_law_926 : decode cL_law 926 = .ok (.if_icmp .eq 894, 3) := by decide +kernel
theorem dL_law_929 : decode cL_law 929 = .ok (.iconst 0, 1) := by decide +kernel
theorem dL_law_930 : decode cL_law 930 = .ok (.ireturn, 1) := by decide +kernel
theorem dL_law_931 : decode cL_law 931 = .ok (.aload_n 1, 1) := by decide +kernel
theorem dL_law_932 : decode cL_law 932 = .ok (.invokevirtual 130, 3) := by decide +kernel
theorem dL_law_935 : decode cL_law 935 = .ok (.aload_n 2, 1) := by decide +kernel
theorem dL_law_936 : decode cL_law 936 = .ok (.invokevirtual 133, 3) := by decide +kernel
theorem dL_law_939 : decode cL_law 939 = .ok (.if_icmp .eq 881, 3) := by decide +kernel
theorem dL_law_942 : decode cL_law 942 = .ok (.iconst 0, 1) := by decide +kernel
theorem dL_law_943 : decode cL_law 943 = .ok (.ireturn, 1) := by decide +kernel
theorem dL_law_944 : decode cL_law 944 = .ok (.aload_n 1, 1) := by decide +kernel
theorem dL_law_945 : decode cL_law 945 = .ok (.invokevirtual 134, 3) := by decide +kernel
theorem dL_law_948 : decode cL_law 948 = .ok (.aload_n 2, 1) := by decide +kernel
theorem dL_law_949 : decode cL_law 949 = .ok (.invokevirtual 137, 3) := by decide +kernel
theorem dL_law_952 : decode cL_law 952 = .ok (.if_icmp .eq 868, 3) := by decide +kernel
theorem dL_law_955 : decode cL_law 955 = .ok (.iconst 0, 1) := by decide +kernel
theorem dL_law_956 : decode cL_law 956 = .ok (.ireturn, 1) := by decide +kernel
theorem dL_law_957 : decode cL_law 957 = .ok (.aload_n 1, 1) := by decide +kernel
theorem dL_law_958 : decode cL_law 958 = .ok (.aload_n 0, 1) := by decide +kernel
theorem dL_law_959 : decode cL_law 959 = .ok (.iload 4, 2) := by decide +kernel
theorem dL_law_961 : decode cL_law 961 = .ok (.iconst 1, 1) := by decide +kernel
theorem dL_law_962 : decode cL_law 962 = .ok (.iadd, 1) := by decide +kernel
theorem dL_law_963 : decode cL_law 963 = .ok (.iaload, 1) := by decide +kernel
theorem dL_law_964 : decode cL_law 964 = .ok (.invokevirtual 138, 3) := by decide +kernel
theorem dL_law_967 : decode cL_law 967 = .ok (.aload_n 2, 1) := by decide +kernel
theorem dL_law_968 : decode cL_law 968 = .ok (.aload_n 0, 1) := by decide +kernel
theorem dL_law_969 : decode cL_law 969 = .ok (.iload 4, 2) := by decide +kernel
theorem dL_law_971 : decode cL_law 971 = .ok (.iconst 1, 1) := by decide +kernel
theorem dL_law_972 : decode cL_law 972 = .ok (.iadd, 1) := by decide +kernel
theorem dL_law_973 : decode cL_law 973 = .ok (.iaload, 1) := by decide +kernel
theorem dL_law_974 : decode cL_law 974 = .ok (.invokevirtual 141, 3) := by decide +kernel
theorem dL_law_977 : decode cL_law 977 = .ok (.if_icmp .eq 843, 3) := by decide +kernel
theorem dL_law_980 : decode cL_law 980 = .ok (.iconst 0, 1) := by decide +kernel
theorem dL_law_981 : decode cL_law 981 = .ok (.ireturn, 1) := by decide +kernel
theorem dL_law_982 : decode cL_law 982 = .ok (.aload_n 1, 1) := by decide +kernel
theorem dL_law_983 : decode cL_law 983 = .ok (.aload_n 0, 1) := by decide +kernel
theorem dL_law_984 : decode cL_law 984 = .ok (.iload 4, 2) := by decide +kernel
theorem dL_law_986 : decode cL_law 986 = .ok (.iconst 1, 1) := by decide +kernel
theorem dL_law_987 : decode cL_law 987 = .ok (.iadd, 1) := by decide +kernel
theorem dL_law_988 : decode cL_law 988 = .ok (.iaload, 1) := by decide +kernel
theorem dL_law_989 : decode cL_law 989 = .ok (.invokevirtual 142, 3) := by decide +kernel
theorem dL_law_992 : decode cL_law 992 = .ok (.aload_n 2, 1) := by decide +kernel
theorem dL_law_993 : decode cL_law 993 = .ok (.aload_n 0, 1) := by decide +kernel
theorem dL_law_994 : decode cL_law 994 = .ok (.iload 4, 2) := by decide +kernel
theorem dL_law_996 : decode cL_law 996 = .ok (.iconst 1, 1) := by decide +kernel
theorem dL_law_997 : decode cL_law 997 = .ok (.iadd, 1) := by decide +kernel
theorem dL_law_998 : decode cL_law 998 = .ok (.iaload, 1) := by decide +kernel
theorem dL_law_999 : decode cL_law 999 = .ok (.invokevirtual 145, 3) := by decide +kernel
theorem dL_law_1002 : decode cL_law 1002 = .ok (.if_icmp .eq 818, 3) := by decide +kernel
theorem dL_law_1005 : decode cL_law 1005 = .ok (.iconst 0, 1) := by decide +kernel
theorem dL_law_1006 : decode cL_law 1006 = .ok (.ireturn, 1) := by decide +kernel
theorem dL_law_1007 : decode cL_law 1007 = .ok (.aload_n 1, 1) := by decide +kernel
theorem dL_law_1008 : decode cL_law 1008 = .ok (.aload_n 0, 1) := by decide +kernel
theorem dL_law_1009 : decode cL_law 1009 = .ok (.iload 4, 2) := by decide +kernel
theorem dL_law_1011 : decode cL_law 1011 = .ok (.iconst 1, 1) := by decide +kernel
theorem dL_law_1012 : decode cL_law 1012 = .ok (.iadd, 1) := by decide +kernel
theorem dL_law_1013 : decode cL_law 1013 = .ok (.iaload, 1) := by decide +kernel
theorem dL_law_1014 : decode cL_law 1014 = .ok (.invokevirtual 146, 3) := by decide +kernel
theorem dL_law_1017 : decode cL_law 1017 = .ok (.aload_n 2, 1) := by decide +kernel
theorem dL_law_1018 : decode cL_law 1018 = .ok (.aload_n 0, 1) := by decide +kernel
theorem dL_law_1019 : decode cL_law 1019 = .ok (.iload 4, 2) := by decide +kernel
theorem dL_law_1021 : decode cL_law 1021 = .ok (.iconst 1, 1) := by decide +kernel
theorem dL_law_1022 : decode cL_law 1022 = .ok (.iadd, 1) := by decide +kernel
theorem dL_law_1023 : decode cL_law 1023 = .ok (.iaload, 1) := by decide +kernel
theorem dL_law_1024 : decode cL_law 1024 = .ok (.invokevirtual 149, 3) := by decide +kernel
theorem dL_law_1027 : decode cL_law 1027 = .ok (.if_icmp .eq 793, 3) := by decide +kernel
theorem dL_law_1030 : decode cL_law 1030 = .ok (.iconst 0, 1) := by decide +kernel
theorem dL_law_1031 : decode cL_law 1031 = .ok (.ireturn, 1) := by decide +kernel
theorem dL_law_1032 : decode cL_law 1032 = .ok (.aload_n 1, 1) := by decide +kernel
theorem dL_law_1033 : decode cL_law 1033 = .ok (.invokevirtual 150, 3) := by decide +kernel
theorem dL_law_1036 : decode cL_law 1036 = .ok (.aload_n 2, 1) := by decide +kernel
theorem dL_law_1037 : decode cL_law 1037 = .ok (.invokevirtual 153, 3) := by decide +kernel
theorem dL_law_1040 : decode cL_law 1040 = .ok (.if_icmp .eq 780, 3) := by decide +kernel
theorem dL_law_1043 : decode cL_law 1043 = .ok (.iconst 0, 1) := by decide +kernel
theorem dL_law_1044 : decode cL_law 1044 = .ok (.ireturn, 1) := by decide +kernel
theorem dL_law_1045 : decode cL_law 1045 = .ok (.aload_n 1, 1) := by decide +kernel
theorem dL_law_1046 : decode cL_law 1046 = .ok (.aload_n 0, 1) := by decide +kernel
theorem dL_law_1047 : decode cL_law 1047 = .ok (.iload 4, 2) := by decide +kernel
theorem dL_law_1049 : decode cL_law 1049 = .ok (.iconst 1, 1) := by decide +kernel
theorem dL_law_1050 : decode cL_law 1050 = .ok (.iadd, 1) := by decide +kernel
theorem dL_law_1051 : decode cL_law 1051 = .ok (.iaload, 1) := by decide +kernel
theorem dL_law_1052 : decode cL_law 1052 = .ok (.invokevirtual 154, 3) := by decide +kernel
theorem dL_law_1055 : decode cL_law 1055 = .ok (.aload_n 2, 1) := by decide +kernel
theorem dL_law_1056 : decode cL_law 1056 = .ok (.aload_n 0, 1) := by decide +kernel
theorem dL_law_1057 : decode cL_law 1057 = .ok (.iload 4, 2) := by decide +kernel
theorem dL_law_1059 : decode cL_law 1059 = .ok (.iconst 1, 1) := by decide +kernel
theorem dL_law_1060 : decode cL_law 1060 = .ok (.iadd, 1) := by decide +kernel
theorem dL_law_1061 : decode cL_law 1061 = .ok (.iaload, 1) := by decide +kernel
theorem dL_law_1062 : decode cL_law 1062 = .ok (.invokevirtual 157, 3) := by decide +kernel
theorem dL_law_1065 : decode cL_law 1065 = .ok (.if_icmp .eq 755, 3) := by decide +kernel
theorem dL_law_1068 : decode cL_law 1068 = .ok (.iconst 0, 1) := by decide +kernel
theorem dL_law_1069 : decode cL_law 1069 = .ok (.ireturn, 1) := by decide +kernel
theorem dL_law_1070 : decode cL_law 1070 = .ok (.aload_n 1, 1) := by decide +kernel
theorem dL_law_1071 : decode cL_law 1071 = .ok (.invokevirtual 158, 3) := by decide +kernel
theorem dL_law_1074 : decode cL_law 1074 = .ok (.aload_n 2, 1) := by decide +kernel
theorem dL_law_1075 : decode cL_law 1075 = .ok (.invokevirtual 161, 3) := by decide +kernel
theorem dL_law_1078 : decode cL_law 1078 = .ok (.if_icmp .eq 742, 3) := by decide +kernel
theorem dL_law_1081 : decode cL_law 1081 = .ok (.iconst 0, 1) := by decide +kernel
theorem dL_law_1082 : decode cL_law 1082 = .ok (.ireturn, 1) := by decide +kernel
theorem dL_law_1083 : decode cL_law 1083 = .ok (.aload_n 1, 1) := by decide +kernel
theorem dL_law_1084 : decode cL_law 1084 = .ok (.invokevirtual 162, 3) := by decide +kernel
theorem dL_law_1087 : decode cL_law 1087 = .ok (.aload_n 2, 1) := by decide +kernel
theorem dL_law_1088 : decode cL_law 1088 = .ok (.invokevirtual 165, 3) := by decide +kernel
theorem dL_law_1091 : decode cL_law 1091 = .ok (.if_icmp .eq 729, 3) := by decide +kernel
theorem dL_law_1094 : decode cL_law 1094 = .ok (.iconst 0, 1) := by decide +kernel
theorem dL_law_1095 : decode cL_law 1095 = .ok (.ireturn, 1) := by decide +kernel
theorem dL_law_1096 : decode cL_law 1096 = .ok (.aload_n 1, 1) := by decide +kernel
theorem dL_law_1097 : decode cL_law 1097 = .ok (.aload_n 0, 1) := by decide +kernel
theorem dL_law_1098 : decode cL_law 1098 = .ok (.iload 4, 2) := by decide +kernel
theorem dL_law_1100 : decode cL_law 1100 = .ok (.iconst 1, 1) := by decide +kernel
theorem dL_law_1101 : decode cL_law 1101 = .ok (.iadd, 1) := by decide +kernel
theorem dL_law_1102 : decode cL_law 1102 = .ok (.iaload, 1) := by decide +kernel
theorem dL_law_1103 : decode cL_law 1103 = .ok (.invokevirtual 166, 3) := by decide +kernel
theorem dL_law_1106 : decode cL_law 1106 = .ok (.aload_n 2, 1) := by decide +kernel
theorem dL_law_1107 : decode cL_law 1107 = .ok (.aload_n 0, 1) := by decide +kernel
theorem dL_law_1108 : decode cL_law 1108 = .ok (.iload 4, 2) := by decide +kernel
theorem dL_law_1110 : decode cL_law 1110 = .ok (.iconst 1, 1) := by decide +kernel
theorem dL_law_1111 : decode cL_law 1111 = .ok (.iadd, 1) := by decide +kernel
theorem dL_law_1112 : decode cL_law 1112 = .ok (.iaload, 1) := by decide +kernel
theorem dL_law_1113 : decode cL_law 1113 = .ok (.invokevirtual 169, 3) := by decide +kernel
theorem dL_law_1116 : decode cL_law 1116 = .ok (.if_icmp .eq 704, 3) := by decide +kernel
theorem dL_law_1119 : decode cL_law 1119 = .ok (.iconst 0, 1) := by decide +kernel
theorem dL_law_1120 : decode cL_law 1120 = .ok (.ireturn, 1) := by decide +kernel
theorem dL_law_1121 : decode cL_law 1121 = .ok (.aload_n 1, 1) := by decide +kernel
theorem dL_law_1122 : decode cL_law 1122 = .ok (.invokevirtual 170, 3) := by decide +kernel
theorem dL_law_1125 : decode cL_law 1125 = .ok (.aload_n 2, 1) := by decide +kernel
theorem dL_law_1126 : decode cL_law 1126 = .ok (.invokevirtual 173, 3) := by decide +kernel
theorem dL_law_1129 : decode cL_law 1129 = .ok (.if_icmp .eq 691, 3) := by decide +kernel
theorem dL_law_1132 : decode cL_law 1132 = .ok (.iconst 0, 1) := by decide +kernel
theorem dL_law_1133 : decode cL_law 1133 = .ok (.ireturn, 1) := by decide +kernel
theorem dL_law_1134 : decode cL_law 1134 = .ok (.aload_n 1, 1) := by decide +kernel
theorem dL_law_1135 : decode cL_law 1135 = .ok (.invokevirtual 174, 3) := by decide +kernel
theorem dL_law_1138 : decode cL_law 1138 = .ok (.aload_n 2, 1) := by decide +kernel
theorem dL_law_1139 : decode cL_law 1139 = .ok (.invokevirtual 177, 3) := by decide +kernel
theorem dL_law_1142 : decode cL_law 1142 = .ok (.if_icmp .eq 678, 3) := by decide +kernel
theorem dL_law_1145 : decode cL_law 1145 = .ok (.iconst 0, 1) := by decide +kernel
theorem dL_law_1146 : decode cL_law 1146 = .ok (.ireturn, 1) := by decide +kernel
theorem dL_law_1147 : decode cL_law 1147 = .ok (.aload_n 1, 1) := by decide +kernel
theorem dL_law_1148 : decode cL_law 1148 = .ok (.invokevirtual 178, 3) := by decide +kernel
theorem dL_law_1151 : decode cL_law 1151 = .ok (.aload_n 2, 1) := by decide +kernel
theorem dL_law_1152 : decode cL_law 1152 = .ok (.invokevirtual 181, 3) := by decide +kernel
theorem dL_law_1155 : decode cL_law 1155 = .ok (.if_icmp .eq 665, 3) := by decide +kernel
theorem dL_law_1158 : decode cL_law 1158 = .ok (.iconst 0, 1) := by decide +kernel
theorem dL_law_1159 : decode cL_law 1159 = .ok (.ireturn, 1) := by decide +kernel
theorem dL_law_1160 : decode cL_law 1160 = .ok (.aload_n 1, 1) := by decide +kernel
theorem dL_law_1161 : decode cL_law 1161 = .ok (.invokevirtual 182, 3) := by decide +kernel
theorem dL_law_1164 : decode cL_law 1164 = .ok (.aload_n 2, 1) := by decide +kernel
theorem dL_law_1165 : decode cL_law 1165 = .ok (.invokevirtual 185, 3) := by decide +kernel
theorem dL_law_1168 : decode cL_law 1168 = .ok (.if_icmp .eq 652, 3) := by decide +kernel
theorem dL_law_1171 : decode cL_law 1171 = .ok (.iconst 0, 1) := by decide +kernel
theorem dL_law_1172 : decode cL_law 1172 = .ok (.ireturn, 1) := by decide +kernel
theorem dL_law_1173 : decode cL_law 1173 = .ok (.aload_n 1, 1) := by decide +kernel
theorem dL_law_1174 : decode cL_law 1174 = .ok (.invokevirtual 186, 3) := by decide +kernel
theorem dL_law_1177 : decode cL_law 1177 = .ok (.aload_n 2, 1) := by decide +kernel
theorem dL_law_1178 : decode cL_law 1178 = .ok (.invokevirtual 189, 3) := by decide +kernel
theorem dL_law_1181 : decode cL_law 1181 = .ok (.if_icmp .eq 639, 3) := by decide +kernel
theorem dL_law_1184 : decode cL_law 1184 = .ok (.iconst 0, 1) := by decide +kernel
theorem dL_law_1185 : decode cL_law 1185 = .ok (.ireturn, 1) := by decide +kernel
theorem dL_law_1186 : decode cL_law 1186 = .ok (.aload_n 1, 1) := by decide +kernel
theorem dL_law_1187 : decode cL_law 1187 = .ok (.aload_n 0, 1) := by decide +kernel
theorem dL_law_1188 : decode cL_law 1188 = .ok (.iload 4, 2) := by decide +kernel
theorem dL_law_1190 : decode cL_law 1190 = .ok (.iconst 1, 1) := by decide +kernel
theorem dL_law_1191 : decode cL_law 1191 = .ok (.iadd, 1) := by decide +kernel
theorem dL_law_1192 : decode cL_law 1192 = .ok (.iaload, 1) := by decide +kernel
theorem dL_law_1193 : decode cL_law 1193 = .ok (.aload_n 0, 1) := by decide +kernel
theorem dL_law_1194 : decode cL_law 1194 = .ok (.iload 4, 2) := by decide +kernel
theorem dL_law_1196 : decode cL_law 1196 = .ok (.iconst 2, 1) := by decide +kernel
theorem dL_law_1197 : decode cL_law 1197 = .ok (.iadd, 1) := by decide +kernel
theorem dL_law_1198 : decode cL_law 1198 = .ok (.iaload, 1) := by decide +kernel
theorem dL_law_1199 : decode cL_law 1199 = .ok (.ifCond .eq 7, 3) := by decide +kernel
theorem dL_law_1202 : decode cL_law 1202 = .ok (.iconst 1, 1) := by decide +kernel
theorem dL_law_1203 : decode cL_law 1203 = .ok (.goto 4, 3) := by decide +kernel
theorem dL_law_1206 : decode cL_law 1206 = .ok (.iconst 0, 1) := by decide +kernel
theorem dL_law_1207 : decode cL_law 1207 = .ok (.aload_n 0, 1) := by decide +kernel
theorem dL_law_1208 : decode cL_law 1208 = .ok (.iload 4, 2) := by decide +kernel
theorem dL_law_1210 : decode cL_law 1210 = .ok (.iconst 3, 1) := by decide +kernel
theorem dL_law_1211 : decode cL_law 1211 = .ok (.iadd, 1) := by decide +kernel
theorem dL_law_1212 : decode cL_law 1212 = .ok (.iaload, 1) := by decide +kernel
theorem dL_law_1213 : decode cL_law 1213 = .ok (.ifCond .eq 7, 3) := by decide +kernel
theorem dL_law_1216 : decode cL_law 1216 = .ok (.iconst 1, 1) := by decide +kernel
theorem dL_law_1217 : decode cL_law 1217 = .ok (.goto 4, 3) := by decide +kernel
theorem dL_law_1220 : decode cL_law 1220 = .ok (.iconst 0, 1) := by decide +kernel
theorem dL_law_1221 : decode cL_law 1221 = .ok (.aload_n 0, 1) := by decide +kernel
theorem dL_law_1222 : decode cL_law 1222 = .ok (.iload 4, 2) := by decide +kernel
theorem dL_law_1224 : decode cL_law 1224 = .ok (.iconst 4, 1) := by decide +kernel
theorem dL_law_1225 : decode cL_law 1225 = .ok (.iadd, 1) := by decide +kernel
theorem dL_law_1226 : decode cL_law 1226 = .ok (.iaload, 1) := by decide +kernel
theorem dL_law_1227 : decode cL_law 1227 = .ok (.ifCond .eq 7, 3) := by decide +kernel
theorem dL_law_1230 : decode cL_law 1230 = .ok (.iconst 1, 1) := by decide +kernel
theorem dL_law_1231 : decode cL_law 1231 = .ok (.goto 4, 3) := by decide +kernel
theorem dL_law_1234 : decode cL_law 1234 = .ok (.iconst 0, 1) := by decide +kernel
theorem dL_law_1235 : decode cL_law 1235 = .ok (.invokevirtual 190, 3) := by decide +kernel
theorem dL_law_1238 : decode cL_law 1238 = .ok (.aload_n 2, 1) := by decide +kernel
theorem dL_law_1239 : decode cL_law 1239 = .ok (.aload_n 0, 1) := by decide +kernel
theorem dL_law_1240 : decode cL_law 1240 = .ok (.iload 4, 2) := by decide +kernel
theorem dL_law_1242 : decode cL_law 1242 = .ok (.iconst 1, 1) := by decide +kernel
theorem dL_law_1243 : decode cL_law 1243 = .ok (.iadd, 1) := by decide +kernel
theorem dL_law_1244 : decode cL_law 1244 = .ok (.iaload, 1) := by decide +kernel
theorem dL_law_1245 : decode cL_law 1245 = .ok (.aload_n 0, 1) := by decide +kernel
theorem dL_law_1246 : decode cL_law 1246 = .ok (.iload 4, 2) := by decide +kernel
theorem dL_law_1248 : decode cL_law 1248 = .ok (.iconst 2, 1) := by decide +kernel
theorem dL_law_1249 : decode cL_law 1249 = .ok (.iadd, 1) := by decide +kernel
theorem dL_law_1250 : decode cL_law 1250 = .ok (.iaload, 1) := by decide +kernel
theorem dL_law_1251 : decode cL_law 1251 = .ok (.ifCond .eq 7, 3) := by decide +kernel
theorem dL_law_1254 : decode cL_law 1254 = .ok (.iconst 1, 1) := by decide +kernel
theorem dL_law_1255 : decode cL_law 1255 = .ok (.goto 4, 3) := by decide +kernel
theorem dL_law_1258 : decode cL_law 1258 = .ok (.iconst 0, 1) := by decide +kernel
theorem dL_law_1259 : decode cL_law 1259 = .ok (.aload_n 0, 1) := by decide +kernel
theorem dL_law_1260 : decode cL_law 1260 = .ok (.iload 4, 2) := by decide +kernel
theorem dL_law_1262 : decode cL_law 1262 = .ok (.iconst 3, 1) := by decide +kernel
theorem dL_law_1263 : decode cL_law 1263 = .ok (.iadd, 1) := by decide +kernel
theorem dL_law_1264 : decode cL_law 1264 = .ok (.iaload, 1) := by decide +kernel
theorem dL_law_1265 : decode cL_law 1265 = .ok (.ifCond .eq 7, 3) := by decide +kernel
theorem dL_law_1268 : decode cL_law 1268 = .ok (.iconst 1, 1) := by decide +kernel
theorem dL_law_1269 : decode cL_law 1269 = .ok (.goto 4, 3) := by decide +kernel
theorem dL_law_1272 : decode cL_law 1272 = .ok (.iconst 0, 1) := by decide +kernel
theorem dL_law_1273 : decode cL_law 1273 = .ok (.aload_n 0, 1) := by decide +kernel
theorem dL_law_1274 : decode cL_law 1274 = .ok (.iload 4, 2) := by decide +kernel
theorem dL_law_1276 : decode cL_law 1276 = .ok (.iconst 4, 1) := by decide +kernel
theorem dL_law_1277 : decode cL_law 1277 = .ok (.iadd, 1) := by decide +kernel
theorem dL_law_1278 : decode cL_law 1278 = .ok (.iaload, 1) := by decide +kernel
theorem dL_law_1279 : decode cL_law 1279 = .ok (.ifCond .eq 7, 3) := by decide +kernel
theorem dL_law_1282 : decode cL_law 1282 = .ok (.iconst 1, 1) := by decide +kernel
theorem dL_law_1283 : decode cL_law 1283 = .ok (.goto 4, 3) := by decide +kernel
theorem dL_law_1286 : decode cL_law 1286 = .ok (.iconst 0, 1) := by decide +kernel
theorem dL_law_1287 : decode cL_law 1287 = .ok (.invokevirtual 194, 3) := by decide +kernel
theorem dL_law_1290 : decode cL_law 1290 = .ok (.if_icmp .eq 530, 3) := by decide +kernel
theorem dL_law_1293 : decode cL_law 1293 = .ok (.iconst 0, 1) := by decide +kernel
theorem dL_law_1294 : decode cL_law 1294 = .ok (.ireturn, 1) := by decide +kernel
theorem dL_law_1295 : decode cL_law 1295 = .ok (.aload_n 1, 1) := by decide +kernel
theorem dL_law_1296 : decode cL_law 1296 = .ok (.aload_n 0, 1) := by decide +kernel
theorem dL_law_1297 : decode cL_law 1297 = .ok (.iload 4, 2) := by decide +kernel
theorem dL_law_1299 : decode cL_law 1299 = .ok (.iconst 1, 1) := by decide +kernel
theorem dL_law_1300 : decode cL_law 1300 = .ok (.iadd, 1) := by decide +kernel
theorem dL_law_1301 : decode cL_law 1301 = .ok (.iaload, 1) := by decide +kernel
theorem dL_law_1302 : decode cL_law 1302 = .ok (.invokevirtual 195, 3) := by decide +kernel
theorem dL_law_1305 : decode cL_law 1305 = .ok (.aload_n 2, 1) := by decide +kernel
theorem dL_law_1306 : decode cL_law 1306 = .ok (.aload_n 0, 1) := by decide +kernel
theorem dL_law_1307 : decode cL_law 1307 = .ok (.iload 4, 2) := by decide +kernel
theorem dL_law_1309 : decode cL_law 1309 = .ok (.iconst 1, 1) := by decide +kernel
theorem dL_law_1310 : decode cL_law 1310 = .ok (.iadd, 1) := by decide +kernel
theorem dL_law_1311 : decode cL_law 1311 = .ok (.iaload, 1) := by decide +kernel
theorem dL_law_1312 : decode cL_law 1312 = .ok (.invokevirtual 198, 3) := by decide +kernel
theorem dL_law_1315 : decode cL_law 1315 = .ok (.if_icmp .eq 505, 3) := by decide +kernel
theorem dL_law_1318 : decode cL_law 1318 = .ok (.iconst 0, 1) := by decide +kernel
theorem dL_law_1319 : decode cL_law 1319 = .ok (.ireturn, 1) := by decide +kernel
theorem dL_law_1320 : decode cL_law 1320 = .ok (.aload_n 1, 1) := by decide +kernel
theorem dL_law_1321 : decode cL_law 1321 = .ok (.aload_n 0, 1) := by decide +kernel
theorem dL_law_1322 : decode cL_law 1322 = .ok (.iload 4, 2) := by decide +kernel
theorem dL_law_1324 : decode cL_law 1324 = .ok (.iconst 1, 1) := by decide +kernel
theorem dL_law_1325 : decode cL_law 1325 = .ok (.iadd, 1) := by decide +kernel
theorem dL_law_1326 : decode cL_law 1326 = .ok (.iaload, 1) := by decide +kernel
theorem dL_law_1327 : decode cL_law 1327 = .ok (.invokevirtual 199, 3) := by decide +kernel
theorem dL_law_1330 : decode cL_law 1330 = .ok (.aload_n 2, 1) := by decide +kernel
theorem dL_law_1331 : decode cL_law 1331 = .ok (.aload_n 0, 1) := by decide +kernel
theorem dL_law_1332 : decode cL_law 1332 = .ok (.iload 4, 2) := by decide +kernel
theorem dL_law_1334 : decode cL_law 1334 = .ok (.iconst 1, 1) := by decide +kernel
theorem dL_law_1335 : decode cL_law 1335 = .ok (.iadd, 1) := by decide +kernel
theorem dL_law_1336 : decode cL_law 1336 = .ok (.iaload, 1) := by decide +kernel
theorem dL_law_1337 : decode cL_law 1337 = .ok (.invokevirtual 202, 3) := by decide +kernel
theorem dL_law_1340 : decode cL_law 1340 = .ok (.if_icmp .eq 480, 3) := by decide +kernel
theorem dL_law_1343 : decode cL_law 1343 = .ok (.iconst 0, 1) := by decide +kernel
theorem dL_law_1344 : decode cL_law 1344 = .ok (.ireturn, 1) := by decide +kernel
theorem dL_law_1345 : decode cL_law 1345 = .ok (.aload_n 1, 1) := by decide +kernel
theorem dL_law_1346 : decode cL_law 1346 = .ok (.aload_n 0, 1) := by decide +kernel
theorem dL_law_1347 : decode cL_law 1347 = .ok (.iload 4, 2) := by decide +kernel
theorem dL_law_1349 : decode cL_law 1349 = .ok (.iconst 1, 1) := by decide +kernel
theorem dL_law_1350 : decode cL_law 1350 = .ok (.iadd, 1) := by decide +kernel
theorem dL_law_1351 : decode cL_law 1351 = .ok (.iaload, 1) := by decide +kernel
theorem dL_law_1352 : decode cL_law 1352 = .ok (.aload_n 0, 1) := by decide +kernel
theorem dL_law_1353 : decode cL_law 1353 = .ok (.iload 4, 2) := by decide +kernel
theorem dL_law_1355 : decode cL_law 1355 = .ok (.iconst 2, 1) := by decide +kernel
theorem dL_law_1356 : decode cL_law 1356 = .ok (.iadd, 1) := by decide +kernel
theorem dL_law_1357 : decode cL_law 1357 = .ok (.iaload, 1) := by decide +kernel
theorem dL_law_1358 : decode cL_law 1358 = .ok (.aload_n 0, 1) := by decide +kernel
theorem dL_law_1359 : decode cL_law 1359 = .ok (.iload 4, 2) := by decide +kernel
theorem dL_law_1361 : decode cL_law 1361 = .ok (.iconst 3, 1) := by decide +kernel
theorem dL_law_1362 : decode cL_law 1362 = .ok (.iadd, 1) := by decide +kernel
theorem dL_law_1363 : decode cL_law 1363 = .ok (.iaload, 1) := by decide +kernel
theorem dL_law_1364 : decode cL_law 1364 = .ok (.ifCond .eq 7, 3) := by decide +kernel
theorem dL_law_1367 : decode cL_law 1367 = .ok (.iconst 1, 1) := by decide +kernel
theorem dL_law_1368 : decode cL_law 1368 = .ok (.goto 4, 3) := by decide +kernel
theorem dL_law_1371 : decode cL_law 1371 = .ok (.iconst 0, 1) := by decide +kernel
theorem dL_law_1372 : decode cL_law 1372 = .ok (.invokevirtual 203, 3) := by decide +kernel
theorem dL_law_1375 : decode cL_law 1375 = .ok (.aload_n 2, 1) := by decide +kernel
theorem dL_law_1376 : decode cL_law 1376 = .ok (.aload_n 0, 1) := by decide +kernel
theorem dL_law_1377 : decode cL_law 1377 = .ok (.iload 4, 2) := by decide +kernel
theorem dL_law_1379 : decode cL_law 1379 = .ok (.iconst 1, 1) := by decide +kernel
theorem dL_law_1380 : decode cL_law 1380 = .ok (.iadd, 1) := by decide +kernel
theorem dL_law_1381 : decode cL_law 1381 = .ok (.iaload, 1) := by decide +kernel
theorem dL_law_1382 : decode cL_law 1382 = .ok (.aload_n 0, 1) := by decide +kernel
theorem dL_law_1383 : decode cL_law 1383 = .ok (.iload 4, 2) := by decide +kernel
theorem dL_law_1385 : decode cL_law 1385 = .ok (.iconst 2, 1) := by decide +kernel
theorem dL_law_1386 : decode cL_law 1386 = .ok (.iadd, 1) := by decide +kernel
theorem dL_law_1387 : decode cL_law 1387 = .ok (.iaload, 1) := by decide +kernel
theorem dL_law_1388 : decode cL_law 1388 = .ok (.aload_n 0, 1) := by decide +kernel
theorem dL_law_1389 : decode cL_law 1389 = .ok (.iload 4, 2) := by decide +kernel
theorem dL_law_1391 : decode cL_law 1391 = .ok (.iconst 3, 1) := by decide +kernel
theorem dL_law_1392 : decode cL_law 1392 = .ok (.iadd, 1) := by decide +kernel
theorem dL_law_1393 : decode cL_law 1393 = .ok (.iaload, 1) := by decide +kernel
theorem dL_law_1394 : decode cL_law 1394 = .ok (.ifCond .eq 7, 3) := by decide +kernel
theorem dL_law_1397 : decode cL_law 1397 = .ok (.iconst 1, 1) := by decide +kernel
theorem dL_law_1398 : decode cL_law 1398 = .ok (.goto 4, 3) := by decide +kernel
theorem dL_law_1401 : decode cL_law 1401 = .ok (.iconst 0, 1) := by decide +kernel
theorem dL_law_1402 : decode cL_law 1402 = .ok (.invokevirtual 207, 3) := by decide +kernel
theorem dL_law_1405 : decode cL_law 1405 = .ok (.lcmp, 1) := by decide +kernel
theorem dL_law_1406 : decode cL_law 1406 = .ok (.ifCond .eq 414, 3) := by decide +kernel
theorem dL_law_1409 : decode cL_law 1409 = .ok (.iconst 0, 1) := by decide +kernel
theorem dL_law_1410 : decode cL_law 1410 = .ok (.ireturn, 1) := by decide +kernel
theorem dL_law_1411 : decode cL_law 1411 = .ok (.aload_n 1, 1) := by decide +kernel
theorem dL_law_1412 : decode cL_law 1412 = .ok (.aload_n 0, 1) := by decide +kernel
theorem dL_law_1413 : decode cL_law 1413 = .ok (.iload 4, 2) := by decide +kernel
theorem dL_law_1415 : decode cL_law 1415 = .ok (.iconst 1, 1) := by decide +kernel
theorem dL_law_1416 : decode cL_law 1416 = .ok (.iadd, 1) := by decide +kernel
theorem dL_law_1417 : decode cL_law 1417 = .ok (.iaload, 1) := by decide +kernel
theorem dL_law_1418 : decode cL_law 1418 = .ok (.aload_n 0, 1) := by decide +kernel
theorem dL_law_1419 : decode cL_law 1419 = .ok (.iload 4, 2) := by decide +kernel
theorem dL_law_1421 : decode cL_law 1421 = .ok (.iconst 2, 1) := by decide +kernel
theorem dL_law_1422 : decode cL_law 1422 = .ok (.iadd, 1) := by decide +kernel
theorem dL_law_1423 : decode cL_law 1423 = .ok (.iaload, 1) := by decide +kernel
theorem dL_law_1424 : decode cL_law 1424 = .ok (.aload_n 0, 1) := by decide +kernel
theorem dL_law_1425 : decode cL_law 1425 = .ok (.iload 4, 2) := by decide +kernel
theorem dL_law_1427 : decode cL_law 1427 = .ok (.iconst 3, 1) := by decide +kernel
theorem dL_law_1428 : decode cL_law 1428 = .ok (.iadd, 1) := by decide +kernel
theorem dL_law_1429 : decode cL_law 1429 = .ok (.iaload, 1) := by decide +kernel
theorem dL_law_1430 : decode cL_law 1430 = .ok (.ifCond .eq 7, 3) := by decide +kernel
theorem dL_law_1433 : decode cL_law 1433 = .ok (.iconst 1, 1) := by decide +kernel
theorem dL_law_1434 : decode cL_law 1434 = .ok (.goto 4, 3) := by decide +kernel
theorem dL_law_1437 : decode cL_law 1437 = .ok (.iconst 0, 1) := by decide +kernel
theorem dL_law_1438 : decode cL_law 1438 = .ok (.invokevirtual 208, 3) := by decide +kernel
theorem dL_law_1441 : decode cL_law 1441 = .ok (.aload_n 2, 1) := by decide +kernel
theorem dL_law_1442 : decode cL_law 1442 = .ok (.aload_n 0, 1) := by decide +kernel
theorem dL_law_1443 : decode cL_law 1443 = .ok (.iload 4, 2) := by decide +kernel
theorem dL_law_1445 : decode cL_law 1445 = .ok (.iconst 1, 1) := by decide +kernel
theorem dL_law_1446 : decode cL_law 1446 = .ok (.iadd, 1) := by decide +kernel
theorem dL_law_1447 : decode cL_law 1447 = .ok (.iaload, 1) := by decide +kernel
theorem dL_law_1448 : decode cL_law 1448 = .ok (.aload_n 0, 1) := by decide +kernel
theorem dL_law_1449 : decode cL_law 1449 = .ok (.iload 4, 2) := by decide +kernel
theorem dL_law_1451 : decode cL_law 1451 = .ok (.iconst 2, 1) := by decide +kernel
theorem dL_law_1452 : decode cL_law 1452 = .ok (.iadd, 1) := by decide +kernel
theorem dL_law_1453 : decode cL_law 1453 = .ok (.iaload, 1) := by decide +kernel
theorem dL_law_1454 : decode cL_law 1454 = .ok (.aload_n 0, 1) := by decide +kernel
theorem dL_law_1455 : decode cL_law 1455 = .ok (.iload 4, 2) := by decide +kernel
theorem dL_law_1457 : decode cL_law 1457 = .ok (.iconst 3, 1) := by decide +kernel
theorem dL_law_1458 : decode cL_law 1458 = .ok (.iadd, 1) := by decide +kernel
theorem dL_law_1459 : decode cL_law 1459 = .ok (.iaload, 1) := by decide +kernel
theorem dL_law_1460 : decode cL_law 1460 = .ok (.ifCond .eq 7, 3) := by decide +kernel
theorem dL_law_1463 : decode cL_law 1463 = .ok (.iconst 1, 1) := by decide +kernel
theorem dL_law_1464 : decode cL_law 1464 = .ok (.goto 4, 3) := by decide +kernel
theorem dL_law_1467 : decode cL_law 1467 = .ok (.iconst 0, 1) := by decide +kernel
theorem dL_law_1468 : decode cL_law 1468 = .ok (.invokevirtual 211, 3) := by decide +kernel
theorem dL_law_1471 : decode cL_law 1471 = .ok (.lcmp, 1) := by decide +kernel
theorem dL_law_1472 : decode cL_law 1472 = .ok (.ifCond .eq 348, 3) := by decide +kernel
theorem dL_law_1475 : decode cL_law 1475 = .ok (.iconst 0, 1) := by decide +kernel
theorem dL_law_1476 : decode cL_law 1476 = .ok (.ireturn, 1) := by decide +kernel
theorem dL_law_1477 : decode cL_law 1477 = .ok (.aload_n 1, 1) := by decide +kernel
theorem dL_law_1478 : decode cL_law 1478 = .ok (.aload_n 0, 1) := by decide +kernel
theorem dL_law_1479 : decode cL_law 1479 = .ok (.iload 4, 2) := by decide +kernel
theorem dL_law_1481 : decode cL_law 1481 = .ok (.iconst 1, 1) := by decide +kernel
theorem dL_law_1482 : decode cL_law 1482 = .ok (.iadd, 1) := by decide +kernel
theorem dL_law_1483 : decode cL_law 1483 = .ok (.iaload, 1) := by decide +kernel
theorem dL_law_1484 : decode cL_law 1484 = .ok (.aload_n 0, 1) := by decide +kernel
theorem dL_law_1485 : decode cL_law 1485 = .ok (.iload 4, 2) := by decide +kernel
theorem dL_law_1487 : decode cL_law 1487 = .ok (.iconst 2, 1) := by decide +kernel
theorem dL_law_1488 : decode cL_law 1488 = .ok (.iadd, 1) := by decide +kernel
theorem dL_law_1489 : decode cL_law 1489 = .ok (.iaload, 1) := by decide +kernel
theorem dL_law_1490 : decode cL_law 1490 = .ok (.aload_n 0, 1) := by decide +kernel
theorem dL_law_1491 : decode cL_law 1491 = .ok (.iload 4, 2) := by decide +kernel
theorem dL_law_1493 : decode cL_law 1493 = .ok (.iconst 3, 1) := by decide +kernel
theorem dL_law_1494 : decode cL_law 1494 = .ok (.iadd, 1) := by decide +kernel
theorem dL_law_1495 : decode cL_law 1495 = .ok (.iaload, 1) := by decide +kernel
theorem dL_law_1496 : decode cL_law 1496 = .ok (.invokevirtual 212, 3) := by decide +kernel
theorem dL_law_1499 : decode cL_law 1499 = .ok (.aload_n 2, 1) := by decide +kernel
theorem dL_law_1500 : decode cL_law 1500 = .ok (.aload_n 0, 1) := by decide +kernel
theorem dL_law_1501 : decode cL_law 1501 = .ok (.iload 4, 2) := by decide +kernel
theorem dL_law_1503 : decode cL_law 1503 = .ok (.iconst 1, 1) := by decide +kernel
theorem dL_law_1504 : decode cL_law 1504 = .ok (.iadd, 1) := by decide +kernel
theorem dL_law_1505 : decode cL_law 1505 = .ok (.iaload, 1) := by decide +kernel
theorem dL_law_1506 : decode cL_law 1506 = .ok (.aload_n 0, 1) := by decide +kernel
theorem dL_law_1507 : decode cL_law 1507 = .ok (.iload 4, 2) := by decide +kernel
theorem dL_law_1509 : decode cL_law 1509 = .ok (.iconst 2, 1) := by decide +kernel
theorem dL_law_1510 : decode cL_law 1510 = .ok (.iadd, 1) := by decide +kernel
theorem dL_law_1511 : decode cL_law 1511 = .ok (.iaload, 1) := by decide +kernel
theorem dL_law_1512 : decode cL_law 1512 = .ok (.aload_n 0, 1) := by decide +kernel
theorem dL_law_1513 : decode cL_law 1513 = .ok (.iload 4, 2) := by decide +kernel
theorem dL_law_1515 : decode cL_law 1515 = .ok (.iconst 3, 1) := by decide +kernel
theorem dL_law_1516 : decode cL_law 1516 = .ok (.iadd, 1) := by decide +kernel
theorem dL_law_1517 : decode cL_law 1517 = .ok (.iaload, 1) := by decide +kernel
theorem dL_law_1518 : decode cL_law 1518 = .ok (.invokevirtual 216, 3) := by decide +kernel
theorem dL_law_1521 : decode cL_law 1521 = .ok (.if_icmp .eq 299, 3) := by decide +kernel
theorem dL_law_1524 : decode cL_law 1524 = .ok (.iconst 0, 1) := by decide +kernel
theorem dL_law_1525 : decode cL_law 1525 = .ok (.ireturn, 1) := by decide +kernel
theorem dL_law_1526 : decode cL_law 1526 = .ok (.aload_n 1, 1) := by decide +kernel
theorem dL_law_1527 : decode cL_law 1527 = .ok (.aload_n 0, 1) := by decide +kernel
theorem dL_law_1528 : decode cL_law 1528 = .ok (.iload 4, 2) := by decide +kernel
theorem dL_law_1530 : decode cL_law 1530 = .ok (.iconst 1, 1) := by decide +kernel
theorem dL_law_1531 : decode cL_law 1531 = .ok (.iadd, 1) := by decide +kernel
theorem dL_law_1532 : decode cL_law 1532 = .ok (.iaload, 1) := by decide +kernel
theorem dL_law_1533 : decode cL_law 1533 = .ok (.aload_n 0, 1) := by decide +kernel
theorem dL_law_1534 : decode cL_law 1534 = .ok (.iload 4, 2) := by decide +kernel
theorem dL_law_1536 : decode cL_law 1536 = .ok (.iconst 2, 1) := by decide +kernel
theorem dL_law_1537 : decode cL_law 1537 = .ok (.iadd, 1) := by decide +kernel
theorem dL_law_1538 : decode cL_law 1538 = .ok (.iaload, 1) := by decide +kernel
theorem dL_law_1539 : decode cL_law 1539 = .ok (.invokevirtual 217, 3) := by decide +kernel
theorem dL_law_1542 : decode cL_law 1542 = .ok (.aload_n 2, 1) := by decide +kernel
theorem dL_law_1543 : decode cL_law 1543 = .ok (.aload_n 0, 1) := by decide +kernel
theorem dL_law_1544 : decode cL_law 1544 = .ok (.iload 4, 2) := by decide +kernel
theorem dL_law_1546 : decode cL_law 1546 = .ok (.iconst 1, 1) := by decide +kernel
theorem dL_law_1547 : decode cL_law 1547 = .ok (.iadd, 1) := by decide +kernel
theorem dL_law_1548 : decode cL_law 1548 = .ok (.iaload, 1) := by decide +kernel
theorem dL_law_1549 : decode cL_law 1549 = .ok (.aload_n 0, 1) := by decide +kernel
theorem dL_law_1550 : decode cL_law 1550 = .ok (.iload 4, 2) := by decide +kernel
theorem dL_law_1552 : decode cL_law 1552 = .ok (.iconst 2, 1) := by decide +kernel
theorem dL_law_1553 : decode cL_law 1553 = .ok (.iadd, 1) := by decide +kernel
theorem dL_law_1554 : decode cL_law 1554 = .ok (.iaload, 1) := by decide +kernel
theorem dL_law_1555 : decode cL_law 1555 = .ok (.invokevirtual 220, 3) := by decide +kernel
theorem dL_law_1558 : decode cL_law 1558 = .ok (.if_icmp .eq 262, 3) := by decide +kernel
theorem dL_law_1561 : decode cL_law 1561 = .ok (.iconst 0, 1) := by decide +kernel
theorem dL_law_1562 : decode cL_law 1562 = .ok (.ireturn, 1) := by decide +kernel
theorem dL_law_1563 : decode cL_law 1563 = .ok (.aload_n 1, 1) := by decide +kernel
theorem dL_law_1564 : decode cL_law 1564 = .ok (.invokevirtual 221, 3) := by decide +kernel
theorem dL_law_1567 : decode cL_law 1567 = .ok (.aload_n 2, 1) := by decide +kernel
theorem dL_law_1568 : decode cL_law 1568 = .ok (.invokevirtual 224, 3) := by decide +kernel
theorem dL_law_1571 : decode cL_law 1571 = .ok (.if_icmp .eq 249, 3) := by decide +kernel
theorem dL_law_1574 : decode cL_law 1574 = .ok (.iconst 0, 1) := by decide +kernel
theorem dL_law_1575 : decode cL_law 1575 = .ok (.ireturn, 1) := by decide +kernel
theorem dL_law_1576 : decode cL_law 1576 = .ok (.aload_n 1, 1) := by decide +kernel
theorem dL_law_1577 : decode cL_law 1577 = .ok (.aload_n 0, 1) := by decide +kernel
theorem dL_law_1578 : decode cL_law 1578 = .ok (.iload 4, 2) := by decide +kernel
theorem dL_law_1580 : decode cL_law 1580 = .ok (.iconst 1, 1) := by decide +kernel
theorem dL_law_1581 : decode cL_law 1581 = .ok (.iadd, 1) := by decide +kernel
theorem dL_law_1582 : decode cL_law 1582 = .ok (.iaload, 1) := by decide +kernel
theorem dL_law_1583 : decode cL_law 1583 = .ok (.invokevirtual 225, 3) := by decide +kernel
theorem dL_law_1586 : decode cL_law 1586 = .ok (.aload_n 2, 1) := by decide +kernel
theorem dL_law_1587 : decode cL_law 1587 = .ok (.aload_n 0, 1) := by decide +kernel
theorem dL_law_1588 : decode cL_law 1588 = .ok (.iload 4, 2) := by decide +kernel
theorem dL_law_1590 : decode cL_law 1590 = .ok (.iconst 1, 1) := by decide +kernel
theorem dL_law_1591 : decode cL_law 1591 = .ok (.iadd, 1) := by decide +kernel
theorem dL_law_1592 : decode cL_law 1592 = .ok (.iaload, 1) := by decide +kernel
theorem dL_law_1593 : decode cL_law 1593 = .ok (.invokevirtual 228, 3) := by decide +kernel
theorem dL_law_1596 : decode cL_law 1596 = .ok (.if_icmp .eq 224, 3) := by decide +kernel
theorem dL_law_1599 : decode cL_law 1599 = .ok (.iconst 0, 1) := by decide +kernel
theorem dL_law_1600 : decode cL_law 1600 = .ok (.ireturn, 1) := by decide +kernel
theorem dL_law_1601 : decode cL_law 1601 = .ok (.aload_n 1, 1) := by decide +kernel
theorem dL_law_1602 : decode cL_law 1602 = .ok (.aload_n 0, 1) := by decide +kernel
theorem dL_law_1603 : decode cL_law 1603 = .ok (.iload 4, 2) := by decide +kernel
theorem dL_law_1605 : decode cL_law 1605 = .ok (.iconst 1, 1) := by decide +kernel
theorem dL_law_1606 : decode cL_law 1606 = .ok (.iadd, 1) := by decide +kernel
theorem dL_law_1607 : decode cL_law 1607 = .ok (.iaload, 1) := by decide +kernel
theorem dL_law_1608 : decode cL_law 1608 = .ok (.aload_n 0, 1) := by decide +kernel
theorem dL_law_1609 : decode cL_law 1609 = .ok (.iload 4, 2) := by decide +kernel
theorem dL_law_1611 : decode cL_law 1611 = .ok (.iconst 2, 1) := by decide +kernel
theorem dL_law_1612 : decode cL_law 1612 = .ok (.iadd, 1) := by decide +kernel
theorem dL_law_1613 : decode cL_law 1613 = .ok (.iaload, 1) := by decide +kernel
theorem dL_law_1614 : decode cL_law 1614 = .ok (.invokevirtual 229, 3) := by decide +kernel
theorem dL_law_1617 : decode cL_law 1617 = .ok (.aload_n 2, 1) := by decide +kernel
theorem dL_law_1618 : decode cL_law 1618 = .ok (.aload_n 0, 1) := by decide +kernel
theorem dL_law_1619 : decode cL_law 1619 = .ok (.iload 4, 2) := by decide +kernel
theorem dL_law_1621 : decode cL_law 1621 = .ok (.iconst 1, 1) := by decide +kernel
theorem dL_law_1622 : decode cL_law 1622 = .ok (.iadd, 1) := by decide +kernel
theorem dL_law_1623 : decode cL_law 1623 = .ok (.iaload, 1) := by decide +kernel
theorem dL_law_1624 : decode cL_law 1624 = .ok (.aload_n 0, 1) := by decide +kernel
theorem dL_law_1625 : decode cL_law 1625 = .ok (.iload 4, 2) := by decide +kernel
theorem dL_law_1627 : decode cL_law 1627 = .ok (.iconst 2, 1) := by decide +kernel
theorem dL_law_1628 : decode cL_law 1628 = .ok (.iadd, 1) := by decide +kernel
theorem dL_law_1629 : decode cL_law 1629 = .ok (.iaload, 1) := by decide +kernel
theorem dL_law_1630 : decode cL_law 1630 = .ok (.invokevirtual 232, 3) := by decide +kernel
theorem dL_law_1633 : decode cL_law 1633 = .ok (.if_icmp .eq 187, 3) := by decide +kernel
theorem dL_law_1636 : decode cL_law 1636 = .ok (.iconst 0, 1) := by decide +kernel
theorem dL_law_1637 : decode cL_law 1637 = .ok (.ireturn, 1) := by decide +kernel
theorem dL_law_1638 : decode cL_law 1638 = .ok (.aload_n 1, 1) := by decide +kernel
theorem dL_law_1639 : decode cL_law 1639 = .ok (.aload_n 0, 1) := by decide +kernel
theorem dL_law_1640 : decode cL_law 1640 = .ok (.iload 4, 2) := by decide +kernel
theorem dL_law_1642 : decode cL_law 1642 = .ok (.iconst 1, 1) := by decide +kernel
theorem dL_law_1643 : decode cL_law 1643 = .ok (.iadd, 1) := by decide +kernel
theorem dL_law_1644 : decode cL_law 1644 = .ok (.iaload, 1) := by decide +kernel
theorem dL_law_1645 : decode cL_law 1645 = .ok (.aload_n 0, 1) := by decide +kernel
theorem dL_law_1646 : decode cL_law 1646 = .ok (.iload 4, 2) := by decide +kernel
theorem dL_law_1648 : decode cL_law 1648 = .ok (.iconst 2, 1) := by decide +kernel
theorem dL_law_1649 : decode cL_law 1649 = .ok (.iadd, 1) := by decide +kernel
theorem dL_law_1650 : decode cL_law 1650 = .ok (.iaload, 1) := by decide +kernel
theorem dL_law_1651 : decode cL_law 1651 = .ok (.invokevirtual 233, 3) := by decide +kernel
theorem dL_law_1654 : decode cL_law 1654 = .ok (.aload_n 2, 1) := by decide +kernel
theorem dL_law_1655 : decode cL_law 1655 = .ok (.aload_n 0, 1) := by decide +kernel
theorem dL_law_1656 : decode cL_law 1656 = .ok (.iload 4, 2) := by decide +kernel
theorem dL_law_1658 : decode cL_law 1658 = .ok (.iconst 1, 1) := by decide +kernel
theorem dL_law_1659 : decode cL_law 1659 = .ok (.iadd, 1) := by decide +kernel
theorem dL_law_1660 : decode cL_law 1660 = .ok (.iaload, 1) := by decide +kernel
theorem dL_law_1661 : decode cL_law 1661 = .ok (.aload_n 0, 1) := by decide +kernel
theorem dL_law_1662 : decode cL_law 1662 = .ok (.iload 4, 2) := by decide +kernel
theorem dL_law_1664 : decode cL_law 1664 = .ok (.iconst 2, 1) := by decide +kernel
theorem dL_law_1665 : decode cL_law 1665 = .ok (.iadd, 1) := by decide +kernel
theorem dL_law_1666 : decode cL_law 1666 = .ok (.iaload, 1) := by decide +kernel
theorem dL_law_1667 : decode cL_law 1667 = .ok (.invokevirtual 236, 3) := by decide +kernel
theorem dL_law_1670 : decode cL_law 1670 = .ok (.if_icmp .eq 150, 3) := by decide +kernel
theorem dL_law_1673 : decode cL_law 1673 = .ok (.iconst 0, 1) := by decide +kernel
theorem dL_law_1674 : decode cL_law 1674 = .ok (.ireturn, 1) := by decide +kernel
theorem dL_law_1675 : decode cL_law 1675 = .ok (.aload_n 1, 1) := by decide +kernel
theorem dL_law_1676 : decode cL_law 1676 = .ok (.invokevirtual 237, 3) := by decide +kernel
theorem dL_law_1679 : decode cL_law 1679 = .ok (.aload_n 2, 1) := by decide +kernel
theorem dL_law_1680 : decode cL_law 1680 = .ok (.invokevirtual 241, 3) := by decide +kernel
theorem dL_law_1683 : decode cL_law 1683 = .ok (.if_icmp .eq 137, 3) := by decide +kernel
theorem dL_law_1686 : decode cL_law 1686 = .ok (.iconst 0, 1) := by decide +kernel
theorem dL_law_1687 : decode cL_law 1687 = .ok (.ireturn, 1) := by decide +kernel
theorem dL_law_1688 : decode cL_law 1688 = .ok (.aload_n 1, 1) := by decide +kernel
theorem dL_law_1689 : decode cL_law 1689 = .ok (.invokevirtual 242, 3) := by decide +kernel
theorem dL_law_1692 : decode cL_law 1692 = .ok (.aload_n 2, 1) := by decide +kernel
theorem dL_law_1693 : decode cL_law 1693 = .ok (.invokevirtual 245, 3) := by decide +kernel
theorem dL_law_1696 : decode cL_law 1696 = .ok (.if_icmp .eq 124, 3) := by decide +kernel
theorem dL_law_1699 : decode cL_law 1699 = .ok (.iconst 0, 1) := by decide +kernel
theorem dL_law_1700 : decode cL_law 1700 = .ok (.ireturn, 1) := by decide +kernel
theorem dL_law_1701 : decode cL_law 1701 = .ok (.aload_n 1, 1) := by decide +kernel
theorem dL_law_1702 : decode cL_law 1702 = .ok (.aload_n 0, 1) := by decide +kernel
theorem dL_law_1703 : decode cL_law 1703 = .ok (.iload 4, 2) := by decide +kernel
theorem dL_law_1705 : decode cL_law 1705 = .ok (.iconst 1, 1) := by decide +kernel
theorem dL_law_1706 : decode cL_law 1706 = .ok (.iadd, 1) := by decide +kernel
theorem dL_law_1707 : decode cL_law 1707 = .ok (.iaload, 1) := by decide +kernel
theorem dL_law_1708 : decode cL_law 1708 = .ok (.invokevirtual 246, 3) := by decide +kernel
theorem dL_law_1711 : decode cL_law 1711 = .ok (.aload_n 2, 1) := by decide +kernel
theorem dL_law_1712 : decode cL_law 1712 = .ok (.aload_n 0, 1) := by decide +kernel
theorem dL_law_1713 : decode cL_law 1713 = .ok (.iload 4, 2) := by decide +kernel
theorem dL_law_1715 : decode cL_law 1715 = .ok (.iconst 1, 1) := by decide +kernel
theorem dL_law_1716 : decode cL_law 1716 = .ok (.iadd, 1) := by decide +kernel
theorem dL_law_1717 : decode cL_law 1717 = .ok (.iaload, 1) := by decide +kernel
theorem dL_law_1718 : decode cL_law 1718 = .ok (.invokevirtual 250, 3) := by decide +kernel
theorem dL_law_1721 : decode cL_law 1721 = .ok (.if_icmp .eq 99, 3) := by decide +kernel
theorem dL_law_1724 : decode cL_law 1724 = .ok (.iconst 0, 1) := by decide +kernel
theorem dL_law_1725 : decode cL_law 1725 = .ok (.ireturn, 1) := by decide +kernel
theorem dL_law_1726 : decode cL_law 1726 = .ok (.aload_n 1, 1) := by decide +kernel
theorem dL_law_1727 : decode cL_law 1727 = .ok (.aload_n 0, 1) := by decide +kernel
theorem dL_law_1728 : decode cL_law 1728 = .ok (.iload 4, 2) := by decide +kernel
theorem dL_law_1730 : decode cL_law 1730 = .ok (.iconst 1, 1) := by decide +kernel
theorem dL_law_1731 : decode cL_law 1731 = .ok (.iadd, 1) := by decide +kernel
theorem dL_law_1732 : decode cL_law 1732 = .ok (.iaload, 1) := by decide +kernel
theorem dL_law_1733 : decode cL_law 1733 = .ok (.aload_n 3, 1) := by decide +kernel
theorem dL_law_1734 : decode cL_law 1734 = .ok (.invokestatic 251, 3) := by decide +kernel
theorem dL_law_1737 : decode cL_law 1737 = .ok (.istore 5, 2) := by decide +kernel
theorem dL_law_1739 : decode cL_law 1739 = .ok (.aload_n 2, 1) := by decide +kernel
theorem dL_law_1740 : decode cL_law 1740 = .ok (.aload_n 0, 1) := by decide +kernel
theorem dL_law_1741 : decode cL_law 1741 = .ok (.iload 4, 2) := by decide +kernel
theorem dL_law_1743 : decode cL_law 1743 = .ok (.iconst 1, 1) := by decide +kernel
theorem dL_law_1744 : decode cL_law 1744 = .ok (.iadd, 1) := by decide +kernel
theorem dL_law_1745 : decode cL_law 1745 = .ok (.iaload, 1) := by decide +kernel
theorem dL_law_1746 : decode cL_law 1746 = .ok (.invokevirtual 256, 3) := by decide +kernel
theorem dL_law_1749 : decode cL_law 1749 = .ok (.istore 6, 2) := by decide +kernel
theorem dL_law_1751 : decode cL_law 1751 = .ok (.aload_n 2, 1) := by decide +kernel
theorem dL_law_1752 : decode cL_law 1752 = .ok (.invokevirtual 257, 3) := by decide +kernel
theorem dL_law_1755 : decode cL_law 1755 = .ok (.iload 5, 2) := by decide +kernel
theorem dL_law_1757 : decode cL_law 1757 = .ok (.if_icmp .eq 5, 3) := by decide +kernel
theorem dL_law_1760 : decode cL_law 1760 = .ok (.iconst 0, 1) := by decide +kernel
theorem dL_law_1761 : decode cL_law 1761 = .ok (.ireturn, 1) := by decide +kernel
theorem dL_law_1762 : decode cL_law 1762 = .ok (.iload 5, 2) := by decide +kernel
theorem dL_law_1764 : decode cL_law 1764 = .ok (.ifCond .ne 15, 3) := by decide +kernel
theorem dL_law_1767 : decode cL_law 1767 = .ok (.aload_n 3, 1) := by decide +kernel
theorem dL_law_1768 : decode cL_law 1768 = .ok (.iconst 0, 1) := by decide +kernel
theorem dL_law_1769 : decode cL_law 1769 = .ok (.laload, 1) := by decide +kernel
theorem dL_law_1770 : decode cL_law 1770 = .ok (.iload 6, 2) := by decide +kernel
theorem dL_law_1772 : decode cL_law 1772 = .ok (.i2l, 1) := by decide +kernel
theorem dL_law_1773 : decode cL_law 1773 = .ok (.lcmp, 1) := by decide +kernel
theorem dL_law_1774 : decode cL_law 1774 = .ok (.ifCond .eq 5, 3) := by decide +kernel
theorem dL_law_1777 : decode cL_law 1777 = .ok (.iconst 0, 1) := by decide +kernel
theorem dL_law_1778 : decode cL_law 1778 = .ok (.ireturn, 1) := by decide +kernel
theorem dL_law_1779 : decode cL_law 1779 = .ok (.goto 41, 3) := by decide +kernel
theorem dL_law_1782 : decode cL_law 1782 = .ok (.aload_n 1, 1) := by decide +kernel
theorem dL_law_1783 : decode cL_law 1783 = .ok (.aload_n 0, 1) := by decide +kernel
theorem dL_law_1784 : decode cL_law 1784 = .ok (.iload 4, 2) := by decide +kernel
theorem dL_law_1786 : decode cL_law 1786 = .ok (.iconst 1, 1) := by decide +kernel
theorem dL_law_1787 : decode cL_law 1787 = .ok (.iadd, 1) := by decide +kernel
theorem dL_law_1788 : decode cL_law 1788 = .ok (.iaload, 1) := by decide +kernel
theorem dL_law_1789 : decode cL_law 1789 = .ok (.invokevirtual 260, 3) := by decide +kernel
theorem dL_law_1792 : decode cL_law 1792 = .ok (.aload_n 2, 1) := by decide +kernel
theorem dL_law_1793 : decode cL_law 1793 = .ok (.aload_n 0, 1) := by decide +kernel
theorem dL_law_1794 : decode cL_law 1794 = .ok (.iload 4, 2) := by decide +kernel
theorem dL_law_1796 : decode cL_law 1796 = .ok (.iconst 1, 1) := by decide +kernel
theorem dL_law_1797 : decode cL_law 1797 = .ok (.iadd, 1) := by decide +kernel
theorem dL_law_1798 : decode cL_law 1798 = .ok (.iaload, 1) := by decide +kernel
theorem dL_law_1799 : decode cL_law 1799 = .ok (.invokevirtual 263, 3) := by decide +kernel
theorem dL_law_1802 : decode cL_law 1802 = .ok (.if_icmp .eq 18, 3) := by decide +kernel
theorem dL_law_1805 : decode cL_law 1805 = .ok (.iconst 0, 1) := by decide +kernel
theorem dL_law_1806 : decode cL_law 1806 = .ok (.ireturn, 1) := by decide +kernel
theorem dL_law_1807 : decode cL_law 1807 = .ok (.aload_n 1, 1) := by decide +kernel
theorem dL_law_1808 : decode cL_law 1808 = .ok (.invokevirtual 264, 3) := by decide +kernel
theorem dL_law_1811 : decode cL_law 1811 = .ok (.aload_n 2, 1) := by decide +kernel
theorem dL_law_1812 : decode cL_law 1812 = .ok (.invokevirtual 267, 3) := by decide +kernel
theorem dL_law_1815 : decode cL_law 1815 = .ok (.if_icmp .eq 5, 3) := by decide +kernel
theorem dL_law_1818 : decode cL_law 1818 = .ok (.iconst 0, 1) := by decide +kernel
theorem dL_law_1819 : decode cL_law 1819 = .ok (.ireturn, 1) := by decide +kernel
theorem dL_law_1820 : decode cL_law 1820 = .ok (.iinc 4 6, 3) := by decide +kernel
theorem dL_law_1823 : decode cL_law 1823 = .ok (.goto (-1800), 3) := by decide +kernel
theorem dL_law_1826 : decode cL_law 1826 = .ok (.iconst 1, 1) := by decide +kernel
theorem dL_law_1827 : decode cL_law 1827 = .ok (.ireturn, 1) := by decide +kernel
