theorem dX0_init_0 : decode cX0_init 0 = .ok (.aload_n 0, 1) := by decide +kernel
theorem dX0_init_1 : decode cX0_init 1 = .ok (.invokespecial 3, 3) := by decide +kernel
theorem dX0_init_4 : decode cX0_init 4 = .ok (.aload_n 0, 1) := by decide +kernel
theorem dX0_init_5 : decode cX0_init 5 = .ok (.new 9, 3) := by decide +kernel
theorem dX0_init_8 : decode cX0_init 8 = .ok (.dup, 1) := by decide +kernel
theorem dX0_init_9 : decode cX0_init 9 = .ok (.invokespecial 11, 3) := by decide +kernel
theorem dX0_init_12 : decode cX0_init 12 = .ok (.putfield 12, 3) := by decide +kernel
theorem dX0_init_15 : decode cX0_init 15 = .ok (.aload_n 0, 1) := by decide +kernel
theorem dX0_init_16 : decode cX0_init 16 = .ok (.iconst 4, 1) := by decide +kernel
theorem dX0_init_17 : decode cX0_init 17 = .ok (.newarray .int, 2) := by decide +kernel
theorem dX0_init_19 : decode cX0_init 19 = .ok (.putfield 18, 3) := by decide +kernel
theorem dX0_init_22 : decode cX0_init 22 = .ok (.aload_n 0, 1) := by decide +kernel
theorem dX0_init_23 : decode cX0_init 23 = .ok (.iconst 4, 1) := by decide +kernel
theorem dX0_init_24 : decode cX0_init 24 = .ok (.newarray .int, 2) := by decide +kernel
theorem dX0_init_26 : decode cX0_init 26 = .ok (.putfield 22, 3) := by decide +kernel
theorem dX0_init_29 : decode cX0_init 29 = .ok (.aload_n 0, 1) := by decide +kernel
theorem dX0_init_30 : decode cX0_init 30 = .ok (.bipush 6, 2) := by decide +kernel
theorem dX0_init_32 : decode cX0_init 32 = .ok (.newarray .int, 2) := by decide +kernel
theorem dX0_init_34 : decode cX0_init 34 = .ok (.putfield 25, 3) := by decide +kernel
theorem dX0_init_37 : decode cX0_init 37 = .ok (.return_, 1) := by decide +kernel
theorem dX0_clear_0 : decode cX0_clear 0 = .ok (.aload_n 0, 1) := by decide +kernel
theorem dX0_clear_1 : decode cX0_clear 1 = .ok (.getfield 12, 3) := by decide +kernel
theorem dX0_clear_4 : decode cX0_clear 4 = .ok (.iconst 0, 1) := by decide +kernel
theorem dX0_clear_5 : decode cX0_clear 5 = .ok (.putfield 28, 3) := by decide +kernel
theorem dX0_clear_8 : decode cX0_clear 8 = .ok (.aload_n 0, 1) := by decide +kernel
theorem dX0_clear_9 : decode cX0_clear 9 = .ok (.getfield 12, 3) := by decide +kernel
theorem dX0_clear_12 : decode cX0_clear 12 = .ok (.iconst 0, 1) := by decide +kernel
theorem dX0_clear_13 : decode cX0_clear 13 = .ok (.putfield 32, 3) := by decide +kernel
theorem dX0_clear_16 : decode cX0_clear 16 = .ok (.aload_n 0, 1) := by decide +kernel
theorem dX0_clear_17 : decode cX0_clear 17 = .ok (.iconst 0, 1) := by decide +kernel
theorem dX0_clear_18 : decode cX0_clear 18 = .ok (.putfield 35, 3) := by decide +kernel
theorem dX0_clear_21 : decode cX0_clear 21 = .ok (.aload_n 0, 1) := by decide +kernel
theorem dX0_clear_22 : decode cX0_clear 22 = .ok (.iconst 0, 1) := by decide +kernel
theorem dX0_clear_23 : decode cX0_clear 23 = .ok (.putfield 38, 3) := by decide +kernel
theorem dX0_clear_26 : decode cX0_clear 26 = .ok (.aload_n 0, 1) := by decide +kernel
theorem dX0_clear_27 : decode cX0_clear 27 = .ok (.iconst 0, 1) := by decide +kernel
theorem dX0_clear_28 : decode cX0_clear 28 = .ok (.putfield 41, 3) := by decide +kernel
theorem dX0_clear_31 : decode cX0_clear 31 = .ok (.aload_n 0, 1) := by decide +kernel
theorem dX0_clear_32 : decode cX0_clear 32 = .ok (.iconst 0, 1) := by decide +kernel
theorem dX0_clear_33 : decode cX0_clear 33 = .ok (.putfield 44, 3) := by decide +kernel
theorem dX0_clear_36 : decode cX0_clear 36 = .ok (.aload_n 0, 1) := by decide +kernel
theorem dX0_clear_37 : decode cX0_clear 37 = .ok (.iconst 0, 1) := by decide +kernel
theorem dX0_clear_38 : decode cX0_clear 38 = .ok (.putfield 47, 3) := by decide +kernel
theorem dX0_clear_41 : decode cX0_clear 41 = .ok (.aload_n 0, 1) := by decide +kernel
theorem dX0_clear_42 : decode cX0_clear 42 = .ok (.iconst 0, 1) := by decide +kernel
theorem dX0_clear_43 : decode cX0_clear 43 = .ok (.putfield 50, 3) := by decide +kernel
theorem dX0_clear_46 : decode cX0_clear 46 = .ok (.return_, 1) := by decide +kernel
theorem dX0_takeFrom_0 : decode cX0_takeFrom 0 = .ok (.aload_n 0, 1) := by decide +kernel
theorem dX0_takeFrom_1 : decode cX0_takeFrom 1 = .ok (.getfield 12, 3) := by decide +kernel
theorem dX0_takeFrom_4 : decode cX0_takeFrom 4 = .ok (.aload_n 1, 1) := by decide +kernel
theorem dX0_takeFrom_5 : decode cX0_takeFrom 5 = .ok (.getfield 12, 3) := by decide +kernel
theorem dX0_takeFrom_8 : decode cX0_takeFrom 8 = .ok (.invokevirtual 53, 3) := by decide +kernel
theorem dX0_takeFrom_11 : decode cX0_takeFrom 11 = .ok (.aload_n 1, 1) := by decide +kernel
theorem dX0_takeFrom_12 : decode cX0_takeFrom 12 = .ok (.getfield 18, 3) := by decide +kernel
theorem dX0_takeFrom_15 : decode cX0_takeFrom 15 = .ok (.iconst 0, 1) := by decide +kernel
theorem dX0_takeFrom_16 : decode cX0_takeFrom 16 = .ok (.aload_n 0, 1) := by decide +kernel
theorem dX0_takeFrom_17 : decode cX0_takeFrom 17 = .ok (.getfield 18, 3) := by decide +kernel
theorem dX0_takeFrom_20 : decode cX0_takeFrom 20 = .ok (.iconst 0, 1) := by decide +kernel
theorem dX0_takeFrom_21 : decode cX0_takeFrom 21 = .ok (.iconst 4, 1) := by decide +kernel
theorem dX0_takeFrom_22 : decode cX0_takeFrom 22 = .ok (.invokestatic 57, 3) := by decide +kernel
theorem dX0_takeFrom_25 : decode cX0_takeFrom 25 = .ok (.aload_n 1, 1) := by decide +kernel
theorem dX0_takeFrom_26 : decode cX0_takeFrom 26 = .ok (.getfield 22, 3) := by decide +kernel
theorem dX0_takeFrom_29 : decode cX0_takeFrom 29 = .ok (.iconst 0, 1) := by decide +kernel
theorem dX0_takeFrom_30 : decode cX0_takeFrom 30 = .ok (.aload_n 0, 1) := by decide +kernel
theorem dX0_takeFrom_31 : decode cX0_takeFrom 31 = .ok (.getfield 22, 3) := by decide +kernel
theorem dX0_takeFrom_34 : decode cX0_takeFrom 34 = .ok (.iconst 0, 1) := by decide +kernel
theorem dX0_takeFrom_35 : decode cX0_takeFrom 35 = .ok (.iconst 4, 1) := by decide +kernel
theorem dX0_takeFrom_36 : decode cX0_takeFrom 36 = .ok (.invokestatic 57, 3) := by decide +kernel
theorem dX0_takeFrom_39 : decode cX0_takeFrom 39 = .ok (.aload_n 1, 1) := by decide +kernel
theorem dX0_takeFrom_40 : decode cX0_takeFrom 40 = .ok (.getfield 25, 3) := by decide +kernel
theorem dX0_takeFrom_43 : decode cX0_takeFrom 43 = .ok (.iconst 0, 1) := by decide +kernel
theorem dX0_takeFrom_44 : decode cX0_takeFrom 44 = .ok (.aload_n 0, 1) := by decide +kernel
theorem dX0_takeFrom_45 : decode cX0_takeFrom 45 = .ok (.getfield 25, 3) := by decide +kernel
theorem dX0_takeFrom_48 : decode cX0_takeFrom 48 = .ok (.iconst 0, 1) := by decide +kernel
theorem dX0_takeFrom_49 : decode cX0_takeFrom 49 = .ok (.bipush 6, 2) := by decide +kernel
theorem dX0_takeFrom_51 : decode cX0_takeFrom 51 = .ok (.invokestatic 57, 3) := by decide +kernel
theorem dX0_takeFrom_54 : decode cX0_takeFrom 54 = .ok (.aload_n 0, 1) := by decide +kernel
theorem dX0_takeFrom_55 : decode cX0_takeFrom 55 = .ok (.aload_n 1, 1) := by decide +kernel
theorem dX0_takeFrom_56 : decode cX0_takeFrom 56 = .ok (.getfield 35, 3) := by decide +kernel
theorem dX0_takeFrom_59 : decode cX0_takeFrom 59 = .ok (.putfield 35, 3) := by decide +kernel
theorem dX0_takeFrom_62 : decode cX0_takeFrom 62 = .ok (.aload_n 0, 1) := by decide +kernel
theorem dX0_takeFrom_63 : decode cX0_takeFrom 63 = .ok (.aload_n 1, 1) := by decide +kernel
theorem dX0_takeFrom_64 : decode cX0_takeFrom 64 = .ok (.getfield 63, 3) := by decide +kernel
theorem dX0_takeFrom_67 : decode cX0_takeFrom 67 = .ok (.putfield 63, 3) := by decide +kernel
theorem dX0_takeFrom_70 : decode cX0_takeFrom 70 = .ok (.aload_n 0, 1) := by decide +kernel
theorem dX0_takeFrom_71 : decode cX0_takeFrom 71 = .ok (.aload_n 1, 1) := by decide +kernel
theorem dX0_takeFrom_72 : decode cX0_takeFrom 72 = .ok (.getfield 66, 3) := by decide +kernel
theorem dX0_takeFrom_75 : decode cX0_takeFrom 75 = .ok (.putfield 66, 3) := by decide +kernel
theorem dX0_takeFrom_78 : decode cX0_takeFrom 78 = .ok (.aload_n 0, 1) := by decide +kernel
theorem dX0_takeFrom_79 : decode cX0_takeFrom 79 = .ok (.aload_n 1, 1) := by decide +kernel
theorem dX0_takeFrom_80 : decode cX0_takeFrom 80 = .ok (.getfield 69, 3) := by decide +kernel
theorem dX0_takeFrom_83 : decode cX0_takeFrom 83 = .ok (.putfield 69, 3) := by decide +kernel
theorem dX0_takeFrom_86 : decode cX0_takeFrom 86 = .ok (.aload_n 0, 1) := by decide +kernel
theorem dX0_takeFrom_87 : decode cX0_takeFrom 87 = .ok (.aload_n 1, 1) := by decide +kernel
theorem dX0_takeFrom_88 : decode cX0_takeFrom 88 = .ok (.getfield 38, 3) := by decide +kernel
theorem dX0_takeFrom_91 : decode cX0_takeFrom 91 = .ok (.putfield 38, 3) := by decide +kernel
theorem dX0_takeFrom_94 : decode cX0_takeFrom 94 = .ok (.aload_n 0, 1) := by decide +kernel
theorem dX0_takeFrom_95 : decode cX0_takeFrom 95 = .ok (.aload_n 1, 1) := by decide +kernel
theorem dX0_takeFrom_96 : decode cX0_takeFrom 96 = .ok (.getfield 41, 3) := by decide +kernel
theorem dX0_takeFrom_99 : decode cX0_takeFrom 99 = .ok (.putfield 41, 3) := by decide +kernel
theorem dX0_takeFrom_102 : decode cX0_takeFrom 102 = .ok (.aload_n 0, 1) := by decide +kernel
theorem dX0_takeFrom_103 : decode cX0_takeFrom 103 = .ok (.aload_n 1, 1) := by decide +kernel
theorem dX0_takeFrom_104 : decode cX0_takeFrom 104 = .ok (.getfield 44, 3) := by decide +kernel
theorem dX0_takeFrom_107 : decode cX0_takeFrom 107 = .ok (.putfield 44, 3) := by decide +kernel
theorem dX0_takeFrom_110 : decode cX0_takeFrom 110 = .ok (.aload_n 0, 1) := by decide +kernel
theorem dX0_takeFrom_111 : decode cX0_takeFrom 111 = .ok (.aload_n 1, 1) := by decide +kernel
theorem dX0_takeFrom_112 : decode cX0_takeFrom 112 = .ok (.getfield 47, 3) := by decide +kernel
theorem dX0_takeFrom_115 : decode cX0_takeFrom 115 = .ok (.putfield 47, 3) := by decide +kernel
theorem dX0_takeFrom_118 : decode cX0_takeFrom 118 = .ok (.aload_n 0, 1) := by decide +kernel
theorem dX0_takeFrom_119 : decode cX0_takeFrom 119 = .ok (.aload_n 1, 1) := by decide +kernel
theorem dX0_takeFrom_120 : decode cX0_takeFrom 120 = .ok (.getfield 50, 3) := by decide +kernel
theorem dX0_takeFrom_123 : decode cX0_takeFrom 123 = .ok (.putfield 50, 3) := by decide +kernel
theorem dX0_takeFrom_126 : decode cX0_takeFrom 126 = .ok (.return_, 1) := by decide +kernel
theorem dX1_init_0 : decode cX1_init 0 = .ok (.aload_n 0, 1) := by decide +kernel
theorem dX1_init_1 : decode cX1_init 1 = .ok (.invokespecial 3, 3) := by decide +kernel
theorem dX1_init_4 : decode cX1_init 4 = .ok (.aload_n 0, 1) := by decide +kernel
theorem dX1_init_5 : decode cX1_init 5 = .ok (.bipush 10, 2) := by decide +kernel
theorem dX1_init_7 : decode cX1_init 7 = .ok (.newarray .int, 2) := by decide +kernel
theorem dX1_init_9 : decode cX1_init 9 = .ok (.putfield 9, 3) := by decide +kernel
theorem dX1_init_12 : decode cX1_init 12 = .ok (.aload_n 0, 1) := by decide +kernel
theorem dX1_init_13 : decode cX1_init 13 = .ok (.bipush 10, 2) := by decide +kernel
theorem dX1_init_15 : decode cX1_init 15 = .ok (.newarray .int, 2) := by decide +kernel
theorem dX1_init_17 : decode cX1_init 17 = .ok (.putfield 15, 3) := by decide +kernel
theorem dX1_init_20 : decode cX1_init 20 = .ok (.aload_n 0, 1) := by decide +kernel
theorem dX1_init_21 : decode cX1_init 21 = .ok (.bipush 10, 2) := by decide +kernel
theorem dX1_init_23 : decode cX1_init 23 = .ok (.newarray .int, 2) := by decide +kernel
theorem dX1_init_25 : decode cX1_init 25 = .ok (.putfield 18, 3) := by decide +kernel
theorem dX1_init_28 : decode cX1_init 28 = .ok (.aload_n 0, 1) := by decide +kernel
theorem dX1_init_29 : decode cX1_init 29 = .ok (.new 21, 3) := by decide +kernel
theorem dX1_init_32 : decode cX1_init 32 = .ok (.dup, 1) := by decide +kernel
theorem dX1_init_33 : decode cX1_init 33 = .ok (.invokespecial 23, 3) := by decide +kernel
theorem dX1_init_36 : decode cX1_init 36 = .ok (.putfield 24, 3) := by decide +kernel
theorem dX1_init_39 : decode cX1_init 39 = .ok (.return_, 1) := by decide +kernel
theorem dX1_add_0 : decode cX1_add 0 = .ok (.aload_n 0, 1) := by decide +kernel
theorem dX1_add_1 : decode cX1_add 1 = .ok (.getfield 28, 3) := by decide +kernel
theorem dX1_add_4 : decode cX1_add 4 = .ok (.bipush 10, 2) := by decide +kernel
theorem dX1_add_6 : decode cX1_add 6 = .ok (.if_icmp .ge 43, 3) := by decide +kernel
theorem dX1_add_9 : decode cX1_add 9 = .ok (.aload_n 0, 1) := by decide +kernel
theorem dX1_add_10 : decode cX1_add 10 = .ok (.getfield 9, 3) := by decide +kernel
theorem dX1_add_13 : decode cX1_add 13 = .ok (.aload_n 0, 1) := by decide +kernel
theorem dX1_add_14 : decode cX1_add 14 = .ok (.getfield 28, 3) := by decide +kernel
theorem dX1_add_17 : decode cX1_add 17 = .ok (.iload_n 1, 1) := by decide +kernel
theorem dX1_add_18 : decode cX1_add 18 = .ok (.iastore, 1) := by decide +kernel
theorem dX1_add_19 : decode cX1_add 19 = .ok (.aload_n 0, 1) := by decide +kernel
theorem dX1_add_20 : decode cX1_add 20 = .ok (.getfield 15, 3) := by decide +kernel
theorem dX1_add_23 : decode cX1_add 23 = .ok (.aload_n 0, 1) := by decide +kernel
theorem dX1_add_24 : decode cX1_add 24 = .ok (.getfield 28, 3) := by decide +kernel
theorem dX1_add_27 : decode cX1_add 27 = .ok (.iload_n 2, 1) := by decide +kernel
theorem dX1_add_28 : decode cX1_add 28 = .ok (.iastore, 1) := by decide +kernel
theorem dX1_add_29 : decode cX1_add 29 = .ok (.aload_n 0, 1) := by decide +kernel
theorem dX1_add_30 : decode cX1_add 30 = .ok (.getfield 18, 3) := by decide +kernel
theorem dX1_add_33 : decode cX1_add 33 = .ok (.aload_n 0, 1) := by decide +kernel
theorem dX1_add_34 : decode cX1_add 34 = .ok (.getfield 28, 3) := by decide +kernel
theorem dX1_add_37 : decode cX1_add 37 = .ok (.iload_n 3, 1) := by decide +kernel
theorem dX1_add_38 : decode cX1_add 38 = .ok (.iastore, 1) := by decide +kernel
theorem dX1_add_39 : decode cX1_add 39 = .ok (.aload_n 0, 1) := by decide +kernel
theorem dX1_add_40 : decode cX1_add 40 = .ok (.dup, 1) := by decide +kernel
theorem dX1_add_41 : decode cX1_add 41 = .ok (.getfield 28, 3) := by decide +kernel
theorem dX1_add_44 : decode cX1_add 44 = .ok (.iconst 1, 1) := by decide +kernel
theorem dX1_add_45 : decode cX1_add 45 = .ok (.iadd, 1) := by decide +kernel
theorem dX1_add_46 : decode cX1_add 46 = .ok (.putfield 28, 3) := by decide +kernel
theorem dX1_add_49 : decode cX1_add 49 = .ok (.return_, 1) := by decide +kernel
theorem dX1_decide_0 : decode cX1_decide 0 = .ok (.iconst 0, 1) := by decide +kernel
theorem dX1_decide_1 : decode cX1_decide 1 = .ok (.istore_n 2, 1) := by decide +kernel
theorem dX1_decide_2 : decode cX1_decide 2 = .ok (.iconst 0, 1) := by decide +kernel
theorem dX1_decide_3 : decode cX1_decide 3 = .ok (.istore_n 3, 1) := by decide +kernel
theorem dX1_decide_4 : decode cX1_decide 4 = .ok (.iload_n 3, 1) := by decide +kernel
theorem dX1_decide_5 : decode cX1_decide 5 = .ok (.aload_n 0, 1) := by decide +kernel
theorem dX1_decide_6 : decode cX1_decide 6 = .ok (.getfield 28, 3) := by decide +kernel
theorem dX1_decide_9 : decode cX1_decide 9 = .ok (.if_icmp .ge 24, 3) := by decide +kernel
theorem dX1_decide_12 : decode cX1_decide 12 = .ok (.aload_n 0, 1) := by decide +kernel
theorem dX1_decide_13 : decode cX1_decide 13 = .ok (.getfield 15, 3) := by decide +kernel
theorem dX1_decide_16 : decode cX1_decide 16 = .ok (.iload_n 3, 1) := by decide +kernel
theorem dX1_decide_17 : decode cX1_decide 17 = .ok (.iaload, 1) := by decide +kernel
theorem dX1_decide_18 : decode cX1_decide 18 = .ok (.ifCond .lt 9, 3) := by decide +kernel
theorem dX1_decide_21 : decode cX1_decide 21 = .ok (.iload_n 2, 1) := by decide +kernel
theorem dX1_decide_22 : decode cX1_decide 22 = .ok (.iconst 1, 1) := by decide +kernel
theorem dX1_decide_23 : decode cX1_decide 23 = .ok (.iload_n 3, 1) := by decide +kernel
theorem dX1_decide_24 : decode cX1_decide 24 = .ok (.ishl, 1) := by decide +kernel
theorem dX1_decide_25 : decode cX1_decide 25 = .ok (.ior, 1) := by decide +kernel
theorem dX1_decide_26 : decode cX1_decide 26 = .ok (.istore_n 2, 1) := by decide +kernel
theorem dX1_decide_27 : decode cX1_decide 27 = .ok (.iinc 3 1, 3) := by decide +kernel
theorem dX1_decide_30 : decode cX1_decide 30 = .ok (.goto (-26), 3) := by decide +kernel
theorem dX1_decide_33 : decode cX1_decide 33 = .ok (.aload_n 0, 1) := by decide +kernel
theorem dX1_decide_34 : decode cX1_decide 34 = .ok (.getfield 24, 3) := by decide +kernel
theorem dX1_decide_37 : decode cX1_decide 37 = .ok (.iload_n 2, 1) := by decide +kernel
theorem dX1_decide_38 : decode cX1_decide 38 = .ok (.aload_n 0, 1) := by decide +kernel
theorem dX1_decide_39 : decode cX1_decide 39 = .ok (.getfield 9, 3) := by decide +kernel
theorem dX1_decide_42 : decode cX1_decide 42 = .ok (.aload_n 0, 1) := by decide +kernel
theorem dX1_decide_43 : decode cX1_decide 43 = .ok (.getfield 28, 3) := by decide +kernel
theorem dX1_decide_46 : decode cX1_decide 46 = .ok (.invokevirtual 32, 3) := by decide +kernel
theorem dX1_decide_49 : decode cX1_decide 49 = .ok (.aload_n 0, 1) := by decide +kernel
theorem dX1_decide_50 : decode cX1_decide 50 = .ok (.bipush (-2), 2) := by decide +kernel
theorem dX1_decide_52 : decode cX1_decide 52 = .ok (.putfield 36, 3) := by decide +kernel
theorem dX1_decide_55 : decode cX1_decide 55 = .ok (.aload_n 0, 1) := by decide +kernel
theorem dX1_decide_56 : decode cX1_decide 56 = .ok (.iconst 0, 1) := by decide +kernel
theorem dX1_decide_57 : decode cX1_decide 57 = .ok (.putfield 39, 3) := by decide +kernel
theorem dX1_decide_60 : decode cX1_decide 60 = .ok (.iconst 0, 1) := by decide +kernel
theorem dX1_decide_61 : decode cX1_decide 61 = .ok (.istore_n 3, 1) := by decide +kernel
theorem dX1_decide_62 : decode cX1_decide 62 = .ok (.iload_n 3, 1) := by decide +kernel
theorem dX1_decide_63 : decode cX1_decide 63 = .ok (.aload_n 0, 1) := by decide +kernel
theorem dX1_decide_64 : decode cX1_decide 64 = .ok (.getfield 24, 3) := by decide +kernel
theorem dX1_decide_67 : decode cX1_decide 67 = .ok (.getfield 42, 3) := by decide +kernel
theorem dX1_decide_70 : decode cX1_decide 70 = .ok (.if_icmp .ge 61, 3) := by decide +kernel
theorem dX1_decide_73 : decode cX1_decide 73 = .ok (.aload_n 0, 1) := by decide +kernel
theorem dX1_decide_74 : decode cX1_decide 74 = .ok (.getfield 24, 3) := by decide +kernel
theorem dX1_decide_77 : decode cX1_decide 77 = .ok (.getfield 45, 3) := by decide +kernel
theorem dX1_decide_80 : decode cX1_decide 80 = .ok (.iload_n 3, 1) := by decide +kernel
theorem dX1_decide_81 : decode cX1_decide 81 = .ok (.iaload, 1) := by decide +kernel
theorem dX1_decide_82 : decode cX1_decide 82 = .ok (.invokestatic 48, 3) := by decide +kernel
theorem dX1_decide_85 : decode cX1_decide 85 = .ok (.iload_n 1, 1) := by decide +kernel
theorem dX1_decide_86 : decode cX1_decide 86 = .ok (.if_icmp .ne 39, 3) := by decide +kernel
theorem dX1_decide_89 : decode cX1_decide 89 = .ok (.aload_n 0, 1) := by decide +kernel
theorem dX1_decide_90 : decode cX1_decide 90 = .ok (.aload_n 0, 1) := by decide +kernel
theorem dX1_decide_91 : decode cX1_decide 91 = .ok (.getfield 24, 3) := by decide +kernel
theorem dX1_decide_94 : decode cX1_decide 94 = .ok (.getfield 45, 3) := by decide +kernel
theorem dX1_decide_97 : decode cX1_decide 97 = .ok (.iload_n 3, 1) := by decide +kernel
theorem dX1_decide_98 : decode cX1_decide 98 = .ok (.iaload, 1) := by decide +kernel
theorem dX1_decide_99 : decode cX1_decide 99 = .ok (.aload_n 0, 1) := by decide +kernel
theorem dX1_decide_100 : decode cX1_decide 100 = .ok (.getfield 15, 3) := by decide +kernel
theorem dX1_decide_103 : decode cX1_decide 103 = .ok (.invokestatic 54, 3) := by decide +kernel
theorem dX1_decide_106 : decode cX1_decide 106 = .ok (.aload_n 0, 1) := by decide +kernel
theorem dX1_decide_107 : decode cX1_decide 107 = .ok (.getfield 24, 3) := by decide +kernel
theorem dX1_decide_110 : decode cX1_decide 110 = .ok (.getfield 45, 3) := by decide +kernel
theorem dX1_decide_113 : decode cX1_decide 113 = .ok (.iload_n 3, 1) := by decide +kernel
theorem dX1_decide_114 : decode cX1_decide 114 = .ok (.iaload, 1) := by decide +kernel
theorem dX1_decide_115 : decode cX1_decide 115 = .ok (.aload_n 0, 1) := by decide +kernel
theorem dX1_decide_116 : decode cX1_decide 116 = .ok (.getfield 18, 3) := by decide +kernel
theorem dX1_decide_119 : decode cX1_decide 119 = .ok (.invokestatic 54, 3) := by decide +kernel
theorem dX1_decide_122 : decode cX1_decide 122 = .ok (.invokevirtual 58, 3) := by decide +kernel
theorem dX1_decide_125 : decode cX1_decide 125 = .ok (.iinc 3 1, 3) := by decide +kernel
theorem dX1_decide_128 : decode cX1_decide 128 = .ok (.goto (-66), 3) := by decide +kernel
theorem dX1_decide_131 : decode cX1_decide 131 = .ok (.return_, 1) := by decide +kernel
theorem dX1_consider_0 : decode cX1_consider 0 = .ok (.aload_n 0, 1) := by decide +kernel
theorem dX1_consider_1 : decode cX1_consider 1 = .ok (.getfield 36, 3) := by decide +kernel
theorem dX1_consider_4 : decode cX1_consider 4 = .ok (.ifCond .lt 27, 3) := by decide +kernel
theorem dX1_consider_7 : decode cX1_consider 7 = .ok (.iload_n 1, 1) := by decide +kernel
theorem dX1_consider_8 : decode cX1_consider 8 = .ok (.aload_n 0, 1) := by decide +kernel
theorem dX1_consider_9 : decode cX1_consider 9 = .ok (.getfield 36, 3) := by decide +kernel
theorem dX1_consider_12 : decode cX1_consider 12 = .ok (.if_icmp .lt 19, 3) := by decide +kernel
theorem dX1_consider_15 : decode cX1_consider 15 = .ok (.iload_n 1, 1) := by decide +kernel
theorem dX1_consider_16 : decode cX1_consider 16 = .ok (.aload_n 0, 1) := by decide +kernel
theorem dX1_consider_17 : decode cX1_consider 17 = .ok (.getfield 36, 3) := by decide +kernel
theorem dX1_consider_20 : decode cX1_consider 20 = .ok (.if_icmp .ne 21, 3) := by decide +kernel
theorem dX1_consider_23 : decode cX1_consider 23 = .ok (.iload_n 2, 1) := by decide +kernel
theorem dX1_consider_24 : decode cX1_consider 24 = .ok (.aload_n 0, 1) := by decide +kernel
theorem dX1_consider_25 : decode cX1_consider 25 = .ok (.getfield 39, 3) := by decide +kernel
theorem dX1_consider_28 : decode cX1_consider 28 = .ok (.if_icmp .ge 13, 3) := by decide +kernel
theorem dX1_consider_31 : decode cX1_consider 31 = .ok (.aload_n 0, 1) := by decide +kernel
theorem dX1_consider_32 : decode cX1_consider 32 = .ok (.iload_n 1, 1) := by decide +kernel
theorem dX1_consider_33 : decode cX1_consider 33 = .ok (.putfield 36, 3) := by decide +kernel
theorem dX1_consider_36 : decode cX1_consider 36 = .ok (.aload_n 0, 1) := by decide +kernel
theorem dX1_consider_37 : decode cX1_consider 37 = .ok (.iload_n 2, 1) := by decide +kernel
theorem dX1_consider_38 : decode cX1_consider 38 = .ok (.putfield 39, 3) := by decide +kernel
theorem dX1_consider_41 : decode cX1_consider 41 = .ok (.return_, 1) := by decide +kernel
theorem dX2_init_0 : decode cX2_init 0 = .ok (.aload_n 0, 1) := by decide +kernel
theorem dX2_init_1 : decode cX2_init 1 = .ok (.invokespecial 3, 3) := by decide +kernel
theorem dX2_init_4 : decode cX2_init 4 = .ok (.aload_n 0, 1) := by decide +kernel
theorem dX2_init_5 : decode cX2_init 5 = .ok (.bipush 16, 2) := by decide +kernel
theorem dX2_init_7 : decode cX2_init 7 = .ok (.newarray .int, 2) := by decide +kernel
theorem dX2_init_9 : decode cX2_init 9 = .ok (.putfield 9, 3) := by decide +kernel
theorem dX2_init_12 : decode cX2_init 12 = .ok (.aload_n 0, 1) := by decide +kernel
theorem dX2_init_13 : decode cX2_init 13 = .ok (.aload_n 1, 1) := by decide +kernel
theorem dX2_init_14 : decode cX2_init 14 = .ok (.putfield 15, 3) := by decide +kernel
theorem dX2_init_17 : decode cX2_init 17 = .ok (.return_, 1) := by decide +kernel
theorem dX2_collect_0 : decode cX2_collect 0 = .ok (.aload_n 0, 1) := by decide +kernel
theorem dX2_collect_1 : decode cX2_collect 1 = .ok (.iconst 0, 1) := by decide +kernel
theorem dX2_collect_2 : decode cX2_collect 2 = .ok (.putfield 19, 3) := by decide +kernel
theorem dX2_collect_5 : decode cX2_collect 5 = .ok (.iconst 0, 1) := by decide +kernel
theorem dX2_collect_6 : decode cX2_collect 6 = .ok (.istore_n 1, 1) := by decide +kernel
theorem dX2_collect_7 : decode cX2_collect 7 = .ok (.iload_n 1, 1) := by decide +kernel
theorem dX2_collect_8 : decode cX2_collect 8 = .ok (.iconst 1, 1) := by decide +kernel
theorem dX2_collect_9 : decode cX2_collect 9 = .ok (.aload_n 0, 1) := by decide +kernel
theorem dX2_collect_10 : decode cX2_collect 10 = .ok (.getfield 15, 3) := by decide +kernel
theorem dX2_collect_13 : decode cX2_collect 13 = .ok (.getfield 23, 3) := by decide +kernel
theorem dX2_collect_16 : decode cX2_collect 16 = .ok (.ishl, 1) := by decide +kernel
theorem dX2_collect_17 : decode cX2_collect 17 = .ok (.if_icmp .ge 46, 3) := by decide +kernel
theorem dX2_collect_20 : decode cX2_collect 20 = .ok (.aload_n 0, 1) := by decide +kernel
theorem dX2_collect_21 : decode cX2_collect 21 = .ok (.getfield 19, 3) := by decide +kernel
theorem dX2_collect_24 : decode cX2_collect 24 = .ok (.bipush 16, 2) := by decide +kernel
theorem dX2_collect_26 : decode cX2_collect 26 = .ok (.if_icmp .ge 37, 3) := by decide +kernel
theorem dX2_collect_29 : decode cX2_collect 29 = .ok (.aload_n 0, 1) := by decide +kernel
theorem dX2_collect_30 : decode cX2_collect 30 = .ok (.iload_n 1, 1) := by decide +kernel
theorem dX2_collect_31 : decode cX2_collect 31 = .ok (.invokevirtual 28, 3) := by decide +kernel
theorem dX2_collect_34 : decode cX2_collect 34 = .ok (.ifCond .eq 23, 3) := by decide +kernel
theorem dX2_collect_37 : decode cX2_collect 37 = .ok (.aload_n 0, 1) := by decide +kernel
theorem dX2_collect_38 : decode cX2_collect 38 = .ok (.getfield 9, 3) := by decide +kernel
theorem dX2_collect_41 : decode cX2_collect 41 = .ok (.aload_n 0, 1) := by decide +kernel
theorem dX2_collect_42 : decode cX2_collect 42 = .ok (.getfield 19, 3) := by decide +kernel
theorem dX2_collect_45 : decode cX2_collect 45 = .ok (.iload_n 1, 1) := by decide +kernel
theorem dX2_collect_46 : decode cX2_collect 46 = .ok (.iastore, 1) := by decide +kernel
theorem dX2_collect_47 : decode cX2_collect 47 = .ok (.aload_n 0, 1) := by decide +kernel
theorem dX2_collect_48 : decode cX2_collect 48 = .ok (.dup, 1) := by decide +kernel
theorem dX2_collect_49 : decode cX2_collect 49 = .ok (.getfield 19, 3) := by decide +kernel
theorem dX2_collect_52 : decode cX2_collect 52 = .ok (.iconst 1, 1) := by decide +kernel
theorem dX2_collect_53 : decode cX2_collect 53 = .ok (.iadd, 1) := by decide +kernel
theorem dX2_collect_54 : decode cX2_collect 54 = .ok (.putfield 19, 3) := by decide +kernel
theorem dX2_collect_57 : decode cX2_collect 57 = .ok (.iinc 1 1, 3) := by decide +kernel
theorem dX2_collect_60 : decode cX2_collect 60 = .ok (.goto (-53), 3) := by decide +kernel
theorem dX2_collect_63 : decode cX2_collect 63 = .ok (.return_, 1) := by decide +kernel
theorem dX2_isFit_0 : decode cX2_isFit 0 = .ok (.iconst 0, 1) := by decide +kernel
theorem dX2_isFit_1 : decode cX2_isFit 1 = .ok (.istore_n 2, 1) := by decide +kernel
theorem dX2_isFit_2 : decode cX2_isFit 2 = .ok (.iload_n 2, 1) := by decide +kernel
theorem dX2_isFit_3 : decode cX2_isFit 3 = .ok (.aload_n 0, 1) := by decide +kernel
theorem dX2_isFit_4 : decode cX2_isFit 4 = .ok (.getfield 15, 3) := by decide +kernel
theorem dX2_isFit_7 : decode cX2_isFit 7 = .ok (.getfield 32, 3) := by decide +kernel
theorem dX2_isFit_10 : decode cX2_isFit 10 = .ok (.if_icmp .ge 20, 3) := by decide +kernel
theorem dX2_isFit_13 : decode cX2_isFit 13 = .ok (.aload_n 0, 1) := by decide +kernel
theorem dX2_isFit_14 : decode cX2_isFit 14 = .ok (.iload_n 2, 1) := by decide +kernel
theorem dX2_isFit_15 : decode cX2_isFit 15 = .ok (.iload_n 1, 1) := by decide +kernel
theorem dX2_isFit_16 : decode cX2_isFit 16 = .ok (.invokevirtual 35, 3) := by decide +kernel
theorem dX2_isFit_19 : decode cX2_isFit 19 = .ok (.ifCond .ne 5, 3) := by decide +kernel
theorem dX2_isFit_22 : decode cX2_isFit 22 = .ok (.iconst 0, 1) := by decide +kernel
theorem dX2_isFit_23 : decode cX2_isFit 23 = .ok (.ireturn, 1) := by decide +kernel
theorem dX2_isFit_24 : decode cX2_isFit 24 = .ok (.iinc 2 1, 3) := by decide +kernel
theorem dX2_isFit_27 : decode cX2_isFit 27 = .ok (.goto (-25), 3) := by decide +kernel
theorem dX2_isFit_30 : decode cX2_isFit 30 = .ok (.iconst 1, 1) := by decide +kernel
theorem dX2_isFit_31 : decode cX2_isFit 31 = .ok (.ireturn, 1) := by decide +kernel
theorem dX2_isSo_0 : decode cX2_isSo 0 = .ok (.aload_n 0, 1) := by decide +kernel
theorem dX2_isSo_1 : decode cX2_isSo 1 = .ok (.getfield 15, 3) := by decide +kernel
theorem dX2_isSo_4 : decode cX2_isSo 4 = .ok (.getfield 39, 3) := by decide +kernel
theorem dX2_isSo_7 : decode cX2_isSo 7 = .ok (.astore_n 3, 1) := by decide +kernel
theorem dX2_isSo_8 : decode cX2_isSo 8 = .ok (.aload_n 0, 1) := by decide +kernel
theorem dX2_isSo_9 : decode cX2_isSo 9 = .ok (.getfield 15, 3) := by decide +kernel
theorem dX2_isSo_12 : decode cX2_isSo 12 = .ok (.getfield 43, 3) := by decide +kernel
theorem dX2_isSo_15 : decode cX2_isSo 15 = .ok (.iload_n 1, 1) := by decide +kernel
theorem dX2_isSo_16 : decode cX2_isSo 16 = .ok (.iaload, 1) := by decide +kernel
theorem dX2_isSo_17 : decode cX2_isSo 17 = .ok (.istore 4, 2) := by decide +kernel
theorem dX2_isSo_19 : decode cX2_isSo 19 = .ok (.aload_n 3, 1) := by decide +kernel
theorem dX2_isSo_20 : decode cX2_isSo 20 = .ok (.iload 4, 2) := by decide +kernel
theorem dX2_isSo_22 : decode cX2_isSo 22 = .ok (.invokevirtual 46, 3) := by decide +kernel
theorem dX2_isSo_25 : decode cX2_isSo 25 = .ok (.istore 5, 2) := by decide +kernel
theorem dX2_isSo_27 : decode cX2_isSo 27 = .ok (.iconst 0, 1) := by decide +kernel
theorem dX2_isSo_28 : decode cX2_isSo 28 = .ok (.istore 6, 2) := by decide +kernel
theorem dX2_isSo_30 : decode cX2_isSo 30 = .ok (.iload 6, 2) := by decide +kernel
theorem dX2_isSo_32 : decode cX2_isSo 32 = .ok (.aload_n 0, 1) := by decide +kernel
theorem dX2_isSo_33 : decode cX2_isSo 33 = .ok (.getfield 15, 3) := by decide +kernel
theorem dX2_isSo_36 : decode cX2_isSo 36 = .ok (.getfield 23, 3) := by decide +kernel
theorem dX2_isSo_39 : decode cX2_isSo 39 = .ok (.if_icmp .ge 56, 3) := by decide +kernel
theorem dX2_isSo_42 : decode cX2_isSo 42 = .ok (.iload_n 2, 1) := by decide +kernel
theorem dX2_isSo_43 : decode cX2_isSo 43 = .ok (.iload 6, 2) := by decide +kernel
theorem dX2_isSo_45 : decode cX2_isSo 45 = .ok (.invokestatic 52, 3) := by decide +kernel
theorem dX2_isSo_48 : decode cX2_isSo 48 = .ok (.ifCond .eq 41, 3) := by decide +kernel
theorem dX2_isSo_51 : decode cX2_isSo 51 = .ok (.aload_n 0, 1) := by decide +kernel
theorem dX2_isSo_52 : decode cX2_isSo 52 = .ok (.getfield 15, 3) := by decide +kernel
theorem dX2_isSo_55 : decode cX2_isSo 55 = .ok (.getfield 55, 3) := by decide +kernel
theorem dX2_isSo_58 : decode cX2_isSo 58 = .ok (.iload 6, 2) := by decide +kernel
theorem dX2_isSo_60 : decode cX2_isSo 60 = .ok (.iaload, 1) := by decide +kernel
theorem dX2_isSo_61 : decode cX2_isSo 61 = .ok (.iload 4, 2) := by decide +kernel
theorem dX2_isSo_63 : decode cX2_isSo 63 = .ok (.if_icmp .ne 26, 3) := by decide +kernel
theorem dX2_isSo_66 : decode cX2_isSo 66 = .ok (.aload_n 3, 1) := by decide +kernel
theorem dX2_isSo_67 : decode cX2_isSo 67 = .ok (.getfield 58, 3) := by decide +kernel
theorem dX2_isSo_70 : decode cX2_isSo 70 = .ok (.iload 4, 2) := by decide +kernel
theorem dX2_isSo_72 : decode cX2_isSo 72 = .ok (.iaload, 1) := by decide +kernel
theorem dX2_isSo_73 : decode cX2_isSo 73 = .ok (.iconst 2, 1) := by decide +kernel
theorem dX2_isSo_74 : decode cX2_isSo 74 = .ok (.if_icmp .eq 15, 3) := by decide +kernel
theorem dX2_isSo_77 : decode cX2_isSo 77 = .ok (.aload_n 0, 1) := by decide +kernel
theorem dX2_isSo_78 : decode cX2_isSo 78 = .ok (.getfield 15, 3) := by decide +kernel
theorem dX2_isSo_81 : decode cX2_isSo 81 = .ok (.getfield 61, 3) := by decide +kernel
theorem dX2_isSo_84 : decode cX2_isSo 84 = .ok (.iload 6, 2) := by decide +kernel
theorem dX2_isSo_86 : decode cX2_isSo 86 = .ok (.iaload, 1) := by decide +kernel
theorem dX2_isSo_87 : decode cX2_isSo 87 = .ok (.istore 5, 2) := by decide +kernel
theorem dX2_isSo_89 : decode cX2_isSo 89 = .ok (.iinc 6 1, 3) := by decide +kernel
theorem dX2_isSo_92 : decode cX2_isSo 92 = .ok (.goto (-62), 3) := by decide +kernel
theorem dX2_isSo_95 : decode cX2_isSo 95 = .ok (.aload_n 3, 1) := by decide +kernel
theorem dX2_isSo_96 : decode cX2_isSo 96 = .ok (.getfield 58, 3) := by decide +kernel
theorem dX2_isSo_99 : decode cX2_isSo 99 = .ok (.iload 4, 2) := by decide +kernel
theorem dX2_isSo_101 : decode cX2_isSo 101 = .ok (.iaload, 1) := by decide +kernel
theorem dX2_isSo_102 : decode cX2_isSo 102 = .ok (.iload 5, 2) := by decide +kernel
theorem dX2_isSo_104 : decode cX2_isSo 104 = .ok (.aload_n 3, 1) := by decide +kernel
theorem dX2_isSo_105 : decode cX2_isSo 105 = .ok (.iload 4, 2) := by decide +kernel
theorem dX2_isSo_107 : decode cX2_isSo 107 = .ok (.invokevirtual 64, 3) := by decide +kernel
theorem dX2_isSo_110 : decode cX2_isSo 110 = .ok (.aload_n 0, 1) := by decide +kernel
theorem dX2_isSo_111 : decode cX2_isSo 111 = .ok (.getfield 15, 3) := by decide +kernel
theorem dX2_isSo_114 : decode cX2_isSo 114 = .ok (.getfield 67, 3) := by decide +kernel
theorem dX2_isSo_117 : decode cX2_isSo 117 = .ok (.invokestatic 70, 3) := by decide +kernel
theorem dX2_isSo_120 : decode cX2_isSo 120 = .ok (.aload_n 0, 1) := by decide +kernel
theorem dX2_isSo_121 : decode cX2_isSo 121 = .ok (.getfield 15, 3) := by decide +kernel
theorem dX2_isSo_124 : decode cX2_isSo 124 = .ok (.getfield 74, 3) := by decide +kernel
theorem dX2_isSo_127 : decode cX2_isSo 127 = .ok (.iload_n 1, 1) := by decide +kernel
theorem dX2_isSo_128 : decode cX2_isSo 128 = .ok (.invokestatic 52, 3) := by decide +kernel
theorem dX2_isSo_131 : decode cX2_isSo 131 = .ok (.if_icmp .ne 7, 3) := by decide +kernel
theorem dX2_isSo_134 : decode cX2_isSo 134 = .ok (.iconst 1, 1) := by decide +kernel
theorem dX2_isSo_135 : decode cX2_isSo 135 = .ok (.goto 4, 3) := by decide +kernel
theorem dX2_isSo_138 : decode cX2_isSo 138 = .ok (.iconst 0, 1) := by decide +kernel
theorem dX2_isSo_139 : decode cX2_isSo 139 = .ok (.ireturn, 1) := by decide +kernel
theorem dX2_bestQuestion_0 : decode cX2_bestQuestion 0 = .ok (.bipush (-2), 2) := by decide +kernel
theorem dX2_bestQuestion_2 : decode cX2_bestQuestion 2 = .ok (.istore_n 1, 1) := by decide +kernel
theorem dX2_bestQuestion_3 : decode cX2_bestQuestion 3 = .ok (.iconst 0, 1) := by decide +kernel
theorem dX2_bestQuestion_4 : decode cX2_bestQuestion 4 = .ok (.istore_n 2, 1) := by decide +kernel
theorem dX2_bestQuestion_5 : decode cX2_bestQuestion 5 = .ok (.iconst 0, 1) := by decide +kernel
theorem dX2_bestQuestion_6 : decode cX2_bestQuestion 6 = .ok (.istore_n 3, 1) := by decide +kernel
theorem dX2_bestQuestion_7 : decode cX2_bestQuestion 7 = .ok (.iload_n 3, 1) := by decide +kernel
theorem dX2_bestQuestion_8 : decode cX2_bestQuestion 8 = .ok (.aload_n 0, 1) := by decide +kernel
theorem dX2_bestQuestion_9 : decode cX2_bestQuestion 9 = .ok (.getfield 15, 3) := by decide +kernel
theorem dX2_bestQuestion_12 : decode cX2_bestQuestion 12 = .ok (.getfield 23, 3) := by decide +kernel
theorem dX2_bestQuestion_15 : decode cX2_bestQuestion 15 = .ok (.if_icmp .ge 38, 3) := by decide +kernel
theorem dX2_bestQuestion_18 : decode cX2_bestQuestion 18 = .ok (.aload_n 0, 1) := by decide +kernel
theorem dX2_bestQuestion_19 : decode cX2_bestQuestion 19 = .ok (.getfield 19, 3) := by decide +kernel
theorem dX2_bestQuestion_22 : decode cX2_bestQuestion 22 = .ok (.ifCond .le 31, 3) := by decide +kernel
theorem dX2_bestQuestion_25 : decode cX2_bestQuestion 25 = .ok (.aload_n 0, 1) := by decide +kernel
theorem dX2_bestQuestion_26 : decode cX2_bestQuestion 26 = .ok (.iload_n 3, 1) := by decide +kernel
theorem dX2_bestQuestion_27 : decode cX2_bestQuestion 27 = .ok (.invokevirtual 77, 3) := by decide +kernel
theorem dX2_bestQuestion_30 : decode cX2_bestQuestion 30 = .ok (.istore 4, 2) := by decide +kernel
theorem dX2_bestQuestion_32 : decode cX2_bestQuestion 32 = .ok (.iload_n 1, 1) := by decide +kernel
theorem dX2_bestQuestion_33 : decode cX2_bestQuestion 33 = .ok (.ifCond .lt 9, 3) := by decide +kernel
theorem dX2_bestQuestion_36 : decode cX2_bestQuestion 36 = .ok (.iload 4, 2) := by decide +kernel
theorem dX2_bestQuestion_38 : decode cX2_bestQuestion 38 = .ok (.iload_n 2, 1) := by decide +kernel
theorem dX2_bestQuestion_39 : decode cX2_bestQuestion 39 = .ok (.if_icmp .ge 8, 3) := by decide +kernel
theorem dX2_bestQuestion_42 : decode cX2_bestQuestion 42 = .ok (.iload_n 3, 1) := by decide +kernel
theorem dX2_bestQuestion_43 : decode cX2_bestQuestion 43 = .ok (.istore_n 1, 1) := by decide +kernel
theorem dX2_bestQuestion_44 : decode cX2_bestQuestion 44 = .ok (.iload 4, 2) := by decide +kernel
theorem dX2_bestQuestion_46 : decode cX2_bestQuestion 46 = .ok (.istore_n 2, 1) := by decide +kernel
theorem dX2_bestQuestion_47 : decode cX2_bestQuestion 47 = .ok (.iinc 3 1, 3) := by decide +kernel
theorem dX2_bestQuestion_50 : decode cX2_bestQuestion 50 = .ok (.goto (-43), 3) := by decide +kernel
theorem dX2_bestQuestion_53 : decode cX2_bestQuestion 53 = .ok (.iload_n 1, 1) := by decide +kernel
theorem dX2_bestQuestion_54 : decode cX2_bestQuestion 54 = .ok (.ireturn, 1) := by decide +kernel
theorem dX2_mostLeft_0 : decode cX2_mostLeft 0 = .ok (.iconst 0, 1) := by decide +kernel
theorem dX2_mostLeft_1 : decode cX2_mostLeft 1 = .ok (.istore_n 2, 1) := by decide +kernel
theorem dX2_mostLeft_2 : decode cX2_mostLeft 2 = .ok (.iconst 0, 1) := by decide +kernel
theorem dX2_mostLeft_3 : decode cX2_mostLeft 3 = .ok (.istore_n 3, 1) := by decide +kernel
theorem dX2_mostLeft_4 : decode cX2_mostLeft 4 = .ok (.iload_n 3, 1) := by decide +kernel
theorem dX2_mostLeft_5 : decode cX2_mostLeft 5 = .ok (.aload_n 0, 1) := by decide +kernel
theorem dX2_mostLeft_6 : decode cX2_mostLeft 6 = .ok (.getfield 19, 3) := by decide +kernel
theorem dX2_mostLeft_9 : decode cX2_mostLeft 9 = .ok (.if_icmp .ge 25, 3) := by decide +kernel
theorem dX2_mostLeft_12 : decode cX2_mostLeft 12 = .ok (.aload_n 0, 1) := by decide +kernel
theorem dX2_mostLeft_13 : decode cX2_mostLeft 13 = .ok (.getfield 9, 3) := by decide +kernel
theorem dX2_mostLeft_16 : decode cX2_mostLeft 16 = .ok (.iload_n 3, 1) := by decide +kernel
theorem dX2_mostLeft_17 : decode cX2_mostLeft 17 = .ok (.iaload, 1) := by decide +kernel
theorem dX2_mostLeft_18 : decode cX2_mostLeft 18 = .ok (.iload_n 1, 1) := by decide +kernel
theorem dX2_mostLeft_19 : decode cX2_mostLeft 19 = .ok (.invokestatic 52, 3) := by decide +kernel
theorem dX2_mostLeft_22 : decode cX2_mostLeft 22 = .ok (.ifCond .eq 6, 3) := by decide +kernel
theorem dX2_mostLeft_25 : decode cX2_mostLeft 25 = .ok (.iinc 2 1, 3) := by decide +kernel
theorem dX2_mostLeft_28 : decode cX2_mostLeft 28 = .ok (.iinc 3 1, 3) := by decide +kernel
theorem dX2_mostLeft_31 : decode cX2_mostLeft 31 = .ok (.goto (-27), 3) := by decide +kernel
theorem dX2_mostLeft_34 : decode cX2_mostLeft 34 = .ok (.iload_n 2, 1) := by decide +kernel
theorem dX2_mostLeft_35 : decode cX2_mostLeft 35 = .ok (.aload_n 0, 1) := by decide +kernel
theorem dX2_mostLeft_36 : decode cX2_mostLeft 36 = .ok (.getfield 19, 3) := by decide +kernel
theorem dX2_mostLeft_39 : decode cX2_mostLeft 39 = .ok (.iload_n 2, 1) := by decide +kernel
theorem dX2_mostLeft_40 : decode cX2_mostLeft 40 = .ok (.isub, 1) := by decide +kernel
theorem dX2_mostLeft_41 : decode cX2_mostLeft 41 = .ok (.invokestatic 80, 3) := by decide +kernel
theorem dX2_mostLeft_44 : decode cX2_mostLeft 44 = .ok (.ireturn, 1) := by decide +kernel
theorem dX3_init_0 : decode cX3_init 0 = .ok (.aload_n 0, 1) := by decide +kernel
theorem dX3_init_1 : decode cX3_init 1 = .ok (.invokespecial 3, 3) := by decide +kernel
theorem dX3_init_4 : decode cX3_init 4 = .ok (.aload_n 0, 1) := by decide +kernel
theorem dX3_init_5 : decode cX3_init 5 = .ok (.bipush 26, 2) := by decide +kernel
theorem dX3_init_7 : decode cX3_init 7 = .ok (.newarray .int, 2) := by decide +kernel
theorem dX3_init_9 : decode cX3_init 9 = .ok (.putfield 9, 3) := by decide +kernel
theorem dX3_init_12 : decode cX3_init 12 = .ok (.return_, 1) := by decide +kernel
theorem dX3_fill_0 : decode cX3_fill 0 = .ok (.aload_n 0, 1) := by decide +kernel
theorem dX3_fill_1 : decode cX3_fill 1 = .ok (.iconst 0, 1) := by decide +kernel
theorem dX3_fill_2 : decode cX3_fill 2 = .ok (.putfield 15, 3) := by decide +kernel
theorem dX3_fill_5 : decode cX3_fill 5 = .ok (.aload_n 0, 1) := by decide +kernel
theorem dX3_fill_6 : decode cX3_fill 6 = .ok (.iconst 0, 1) := by decide +kernel
theorem dX3_fill_7 : decode cX3_fill 7 = .ok (.invokevirtual 19, 3) := by decide +kernel
theorem dX3_fill_10 : decode cX3_fill 10 = .ok (.iconst 0, 1) := by decide +kernel
theorem dX3_fill_11 : decode cX3_fill 11 = .ok (.istore 4, 2) := by decide +kernel
theorem dX3_fill_13 : decode cX3_fill 13 = .ok (.iload 4, 2) := by decide +kernel
theorem dX3_fill_15 : decode cX3_fill 15 = .ok (.iload_n 3, 1) := by decide +kernel
theorem dX3_fill_16 : decode cX3_fill 16 = .ok (.if_icmp .ge 76, 3) := by decide +kernel
theorem dX3_fill_19 : decode cX3_fill 19 = .ok (.iload_n 1, 1) := by decide +kernel
theorem dX3_fill_20 : decode cX3_fill 20 = .ok (.iload 4, 2) := by decide +kernel
theorem dX3_fill_22 : decode cX3_fill 22 = .ok (.invokestatic 23, 3) := by decide +kernel
theorem dX3_fill_25 : decode cX3_fill 25 = .ok (.ifCond .eq 61, 3) := by decide +kernel
theorem dX3_fill_28 : decode cX3_fill 28 = .ok (.aload_n 0, 1) := by decide +kernel
theorem dX3_fill_29 : decode cX3_fill 29 = .ok (.iconst 1, 1) := by decide +kernel
theorem dX3_fill_30 : decode cX3_fill 30 = .ok (.iload 4, 2) := by decide +kernel
theorem dX3_fill_32 : decode cX3_fill 32 = .ok (.ishl, 1) := by decide +kernel
theorem dX3_fill_33 : decode cX3_fill 33 = .ok (.invokevirtual 19, 3) := by decide +kernel
theorem dX3_fill_36 : decode cX3_fill 36 = .ok (.iconst 0, 1) := by decide +kernel
theorem dX3_fill_37 : decode cX3_fill 37 = .ok (.istore 5, 2) := by decide +kernel
theorem dX3_fill_39 : decode cX3_fill 39 = .ok (.iload 5, 2) := by decide +kernel
theorem dX3_fill_41 : decode cX3_fill 41 = .ok (.iload 4, 2) := by decide +kernel
theorem dX3_fill_43 : decode cX3_fill 43 = .ok (.if_icmp .ge 43, 3) := by decide +kernel
theorem dX3_fill_46 : decode cX3_fill 46 = .ok (.iload_n 1, 1) := by decide +kernel
theorem dX3_fill_47 : decode cX3_fill 47 = .ok (.iload 5, 2) := by decide +kernel
theorem dX3_fill_49 : decode cX3_fill 49 = .ok (.invokestatic 23, 3) := by decide +kernel
theorem dX3_fill_52 : decode cX3_fill 52 = .ok (.ifCond .eq 28, 3) := by decide +kernel
theorem dX3_fill_55 : decode cX3_fill 55 = .ok (.aload_n 2, 1) := by decide +kernel
theorem dX3_fill_56 : decode cX3_fill 56 = .ok (.iload 5, 2) := by decide +kernel
theorem dX3_fill_58 : decode cX3_fill 58 = .ok (.iaload, 1) := by decide +kernel
theorem dX3_fill_59 : decode cX3_fill 59 = .ok (.aload_n 2, 1) := by decide +kernel
theorem dX3_fill_60 : decode cX3_fill 60 = .ok (.iload 4, 2) := by decide +kernel
theorem dX3_fill_62 : decode cX3_fill 62 = .ok (.iaload, 1) := by decide +kernel
theorem dX3_fill_63 : decode cX3_fill 63 = .ok (.iand, 1) := by decide +kernel
theorem dX3_fill_64 : decode cX3_fill 64 = .ok (.ifCond .ne 16, 3) := by decide +kernel
theorem dX3_fill_67 : decode cX3_fill 67 = .ok (.aload_n 0, 1) := by decide +kernel
theorem dX3_fill_68 : decode cX3_fill 68 = .ok (.iconst 1, 1) := by decide +kernel
theorem dX3_fill_69 : decode cX3_fill 69 = .ok (.iload 4, 2) := by decide +kernel
theorem dX3_fill_71 : decode cX3_fill 71 = .ok (.ishl, 1) := by decide +kernel
theorem dX3_fill_72 : decode cX3_fill 72 = .ok (.iconst 1, 1) := by decide +kernel
theorem dX3_fill_73 : decode cX3_fill 73 = .ok (.iload 5, 2) := by decide +kernel
theorem dX3_fill_75 : decode cX3_fill 75 = .ok (.ishl, 1) := by decide +kernel
theorem dX3_fill_76 : decode cX3_fill 76 = .ok (.ior, 1) := by decide +kernel
theorem dX3_fill_77 : decode cX3_fill 77 = .ok (.invokevirtual 19, 3) := by decide +kernel
theorem dX3_fill_80 : decode cX3_fill 80 = .ok (.iinc 5 1, 3) := by decide +kernel
theorem dX3_fill_83 : decode cX3_fill 83 = .ok (.goto (-44), 3) := by decide +kernel
theorem dX3_fill_86 : decode cX3_fill 86 = .ok (.iinc 4 1, 3) := by decide +kernel
theorem dX3_fill_89 : decode cX3_fill 89 = .ok (.goto (-76), 3) := by decide +kernel
theorem dX3_fill_92 : decode cX3_fill 92 = .ok (.return_, 1) := by decide +kernel
theorem dX3_add_0 : decode cX3_add 0 = .ok (.aload_n 0, 1) := by decide +kernel
theorem dX3_add_1 : decode cX3_add 1 = .ok (.getfield 15, 3) := by decide +kernel
theorem dX3_add_4 : decode cX3_add 4 = .ok (.bipush 26, 2) := by decide +kernel
theorem dX3_add_6 : decode cX3_add 6 = .ok (.if_icmp .ge 23, 3) := by decide +kernel
theorem dX3_add_9 : decode cX3_add 9 = .ok (.aload_n 0, 1) := by decide +kernel
theorem dX3_add_10 : decode cX3_add 10 = .ok (.getfield 9, 3) := by decide +kernel
theorem dX3_add_13 : decode cX3_add 13 = .ok (.aload_n 0, 1) := by decide +kernel
theorem dX3_add_14 : decode cX3_add 14 = .ok (.getfield 15, 3) := by decide +kernel
theorem dX3_add_17 : decode cX3_add 17 = .ok (.iload_n 1, 1) := by decide +kernel
theorem dX3_add_18 : decode cX3_add 18 = .ok (.iastore, 1) := by decide +kernel
theorem dX3_add_19 : decode cX3_add 19 = .ok (.aload_n 0, 1) := by decide +kernel
theorem dX3_add_20 : decode cX3_add 20 = .ok (.dup, 1) := by decide +kernel
theorem dX3_add_21 : decode cX3_add 21 = .ok (.getfield 15, 3) := by decide +kernel
theorem dX3_add_24 : decode cX3_add 24 = .ok (.iconst 1, 1) := by decide +kernel
theorem dX3_add_25 : decode cX3_add 25 = .ok (.iadd, 1) := by decide +kernel
theorem dX3_add_26 : decode cX3_add 26 = .ok (.putfield 15, 3) := by decide +kernel
theorem dX3_add_29 : decode cX3_add 29 = .ok (.return_, 1) := by decide +kernel
theorem dX4_init_0 : decode cX4_init 0 = .ok (.aload_n 0, 1) := by decide +kernel
theorem dX4_init_1 : decode cX4_init 1 = .ok (.invokespecial 3, 3) := by decide +kernel
theorem dX4_init_4 : decode cX4_init 4 = .ok (.aload_n 0, 1) := by decide +kernel
theorem dX4_init_5 : decode cX4_init 5 = .ok (.iconst 5, 1) := by decide +kernel
theorem dX4_init_6 : decode cX4_init 6 = .ok (.newarray .int, 2) := by decide +kernel
theorem dX4_init_8 : decode cX4_init 8 = .ok (.putfield 9, 3) := by decide +kernel
theorem dX4_init_11 : decode cX4_init 11 = .ok (.aload_n 0, 1) := by decide +kernel
theorem dX4_init_12 : decode cX4_init 12 = .ok (.bipush 10, 2) := by decide +kernel
theorem dX4_init_14 : decode cX4_init 14 = .ok (.newarray .int, 2) := by decide +kernel
theorem dX4_init_16 : decode cX4_init 16 = .ok (.putfield 15, 3) := by decide +kernel
theorem dX4_init_19 : decode cX4_init 19 = .ok (.aload_n 0, 1) := by decide +kernel
theorem dX4_init_20 : decode cX4_init 20 = .ok (.bipush 10, 2) := by decide +kernel
theorem dX4_init_22 : decode cX4_init 22 = .ok (.newarray .int, 2) := by decide +kernel
theorem dX4_init_24 : decode cX4_init 24 = .ok (.putfield 18, 3) := by decide +kernel
theorem dX4_init_27 : decode cX4_init 27 = .ok (.aload_n 0, 1) := by decide +kernel
theorem dX4_init_28 : decode cX4_init 28 = .ok (.bipush 10, 2) := by decide +kernel
theorem dX4_init_30 : decode cX4_init 30 = .ok (.newarray .int, 2) := by decide +kernel
theorem dX4_init_32 : decode cX4_init 32 = .ok (.putfield 21, 3) := by decide +kernel
theorem dX4_init_35 : decode cX4_init 35 = .ok (.aload_n 0, 1) := by decide +kernel
theorem dX4_init_36 : decode cX4_init 36 = .ok (.bipush 10, 2) := by decide +kernel
theorem dX4_init_38 : decode cX4_init 38 = .ok (.newarray .int, 2) := by decide +kernel
theorem dX4_init_40 : decode cX4_init 40 = .ok (.putfield 24, 3) := by decide +kernel
theorem dX4_init_43 : decode cX4_init 43 = .ok (.aload_n 0, 1) := by decide +kernel
theorem dX4_init_44 : decode cX4_init 44 = .ok (.bipush 10, 2) := by decide +kernel
theorem dX4_init_46 : decode cX4_init 46 = .ok (.newarray .int, 2) := by decide +kernel
theorem dX4_init_48 : decode cX4_init 48 = .ok (.putfield 27, 3) := by decide +kernel
theorem dX4_init_51 : decode cX4_init 51 = .ok (.return_, 1) := by decide +kernel
theorem dX4_takeFrom_0 : decode cX4_takeFrom 0 = .ok (.aload_n 1, 1) := by decide +kernel
theorem dX4_takeFrom_1 : decode cX4_takeFrom 1 = .ok (.getfield 9, 3) := by decide +kernel
theorem dX4_takeFrom_4 : decode cX4_takeFrom 4 = .ok (.iconst 0, 1) := by decide +kernel
theorem dX4_takeFrom_5 : decode cX4_takeFrom 5 = .ok (.aload_n 0, 1) := by decide +kernel
theorem dX4_takeFrom_6 : decode cX4_takeFrom 6 = .ok (.getfield 9, 3) := by decide +kernel
theorem dX4_takeFrom_9 : decode cX4_takeFrom 9 = .ok (.iconst 0, 1) := by decide +kernel
theorem dX4_takeFrom_10 : decode cX4_takeFrom 10 = .ok (.iconst 5, 1) := by decide +kernel
theorem dX4_takeFrom_11 : decode cX4_takeFrom 11 = .ok (.invokestatic 30, 3) := by decide +kernel
theorem dX4_takeFrom_14 : decode cX4_takeFrom 14 = .ok (.aload_n 1, 1) := by decide +kernel
theorem dX4_takeFrom_15 : decode cX4_takeFrom 15 = .ok (.getfield 15, 3) := by decide +kernel
theorem dX4_takeFrom_18 : decode cX4_takeFrom 18 = .ok (.iconst 0, 1) := by decide +kernel
theorem dX4_takeFrom_19 : decode cX4_takeFrom 19 = .ok (.aload_n 0, 1) := by decide +kernel
theorem dX4_takeFrom_20 : decode cX4_takeFrom 20 = .ok (.getfield 15, 3) := by decide +kernel
theorem dX4_takeFrom_23 : decode cX4_takeFrom 23 = .ok (.iconst 0, 1) := by decide +kernel
theorem dX4_takeFrom_24 : decode cX4_takeFrom 24 = .ok (.bipush 10, 2) := by decide +kernel
theorem dX4_takeFrom_26 : decode cX4_takeFrom 26 = .ok (.invokestatic 30, 3) := by decide +kernel
theorem dX4_takeFrom_29 : decode cX4_takeFrom 29 = .ok (.aload_n 1, 1) := by decide +kernel
theorem dX4_takeFrom_30 : decode cX4_takeFrom 30 = .ok (.getfield 18, 3) := by decide +kernel
theorem dX4_takeFrom_33 : decode cX4_takeFrom 33 = .ok (.iconst 0, 1) := by decide +kernel
theorem dX4_takeFrom_34 : decode cX4_takeFrom 34 = .ok (.aload_n 0, 1) := by decide +kernel
theorem dX4_takeFrom_35 : decode cX4_takeFrom 35 = .ok (.getfield 18, 3) := by decide +kernel
theorem dX4_takeFrom_38 : decode cX4_takeFrom 38 = .ok (.iconst 0, 1) := by decide +kernel
theorem dX4_takeFrom_39 : decode cX4_takeFrom 39 = .ok (.bipush 10, 2) := by decide +kernel
theorem dX4_takeFrom_41 : decode cX4_takeFrom 41 = .ok (.invokestatic 30, 3) := by decide +kernel
theorem dX4_takeFrom_44 : decode cX4_takeFrom 44 = .ok (.aload_n 1, 1) := by decide +kernel
theorem dX4_takeFrom_45 : decode cX4_takeFrom 45 = .ok (.getfield 21, 3) := by decide +kernel
theorem dX4_takeFrom_48 : decode cX4_takeFrom 48 = .ok (.iconst 0, 1) := by decide +kernel
theorem dX4_takeFrom_49 : decode cX4_takeFrom 49 = .ok (.aload_n 0, 1) := by decide +kernel
theorem dX4_takeFrom_50 : decode cX4_takeFrom 50 = .ok (.getfield 21, 3) := by decide +kernel
theorem dX4_takeFrom_53 : decode cX4_takeFrom 53 = .ok (.iconst 0, 1) := by decide +kernel
theorem dX4_takeFrom_54 : decode cX4_takeFrom 54 = .ok (.bipush 10, 2) := by decide +kernel
theorem dX4_takeFrom_56 : decode cX4_takeFrom 56 = .ok (.invokestatic 30, 3) := by decide +kernel
theorem dX4_takeFrom_59 : decode cX4_takeFrom 59 = .ok (.aload_n 1, 1) := by decide +kernel
theorem dX4_takeFrom_60 : decode cX4_takeFrom 60 = .ok (.getfield 24, 3) := by decide +kernel
theorem dX4_takeFrom_63 : decode cX4_takeFrom 63 = .ok (.iconst 0, 1) := by decide +kernel
theorem dX4_takeFrom_64 : decode cX4_takeFrom 64 = .ok (.aload_n 0, 1) := by decide +kernel
theorem dX4_takeFrom_65 : decode cX4_takeFrom 65 = .ok (.getfield 24, 3) := by decide +kernel
theorem dX4_takeFrom_68 : decode cX4_takeFrom 68 = .ok (.iconst 0, 1) := by decide +kernel
theorem dX4_takeFrom_69 : decode cX4_takeFrom 69 = .ok (.bipush 10, 2) := by decide +kernel
theorem dX4_takeFrom_71 : decode cX4_takeFrom 71 = .ok (.invokestatic 30, 3) := by decide +kernel
theorem dX4_takeFrom_74 : decode cX4_takeFrom 74 = .ok (.aload_n 1, 1) := by decide +kernel
theorem dX4_takeFrom_75 : decode cX4_takeFrom 75 = .ok (.getfield 27, 3) := by decide +kernel
theorem dX4_takeFrom_78 : decode cX4_takeFrom 78 = .ok (.iconst 0, 1) := by decide +kernel
theorem dX4_takeFrom_79 : decode cX4_takeFrom 79 = .ok (.aload_n 0, 1) := by decide +kernel
theorem dX4_takeFrom_80 : decode cX4_takeFrom 80 = .ok (.getfield 27, 3) := by decide +kernel
theorem dX4_takeFrom_83 : decode cX4_takeFrom 83 = .ok (.iconst 0, 1) := by decide +kernel
theorem dX4_takeFrom_84 : decode cX4_takeFrom 84 = .ok (.bipush 10, 2) := by decide +kernel
theorem dX4_takeFrom_86 : decode cX4_takeFrom 86 = .ok (.invokestatic 30, 3) := by decide +kernel
theorem dX4_takeFrom_89 : decode cX4_takeFrom 89 = .ok (.aload_n 0, 1) := by decide +kernel
theorem dX4_takeFrom_90 : decode cX4_takeFrom 90 = .ok (.aload_n 1, 1) := by decide +kernel
theorem dX4_takeFrom_91 : decode cX4_takeFrom 91 = .ok (.getfield 36, 3) := by decide +kernel
theorem dX4_takeFrom_94 : decode cX4_takeFrom 94 = .ok (.putfield 36, 3) := by decide +kernel
theorem dX4_takeFrom_97 : decode cX4_takeFrom 97 = .ok (.aload_n 0, 1) := by decide +kernel
theorem dX4_takeFrom_98 : decode cX4_takeFrom 98 = .ok (.aload_n 1, 1) := by decide +kernel
theorem dX4_takeFrom_99 : decode cX4_takeFrom 99 = .ok (.getfield 40, 3) := by decide +kernel
theorem dX4_takeFrom_102 : decode cX4_takeFrom 102 = .ok (.putfield 40, 3) := by decide +kernel
theorem dX4_takeFrom_105 : decode cX4_takeFrom 105 = .ok (.return_, 1) := by decide +kernel
theorem dX4_addPair_0 : decode cX4_addPair 0 = .ok (.aload_n 0, 1) := by decide +kernel
theorem dX4_addPair_1 : decode cX4_addPair 1 = .ok (.getfield 36, 3) := by decide +kernel
theorem dX4_addPair_4 : decode cX4_addPair 4 = .ok (.bipush 10, 2) := by decide +kernel
theorem dX4_addPair_6 : decode cX4_addPair 6 = .ok (.if_icmp .lt 4, 3) := by decide +kernel
theorem dX4_addPair_9 : decode cX4_addPair 9 = .ok (.return_, 1) := by decide +kernel
theorem dX4_addPair_10 : decode cX4_addPair 10 = .ok (.aload_n 0, 1) := by decide +kernel
theorem dX4_addPair_11 : decode cX4_addPair 11 = .ok (.getfield 15, 3) := by decide +kernel
theorem dX4_addPair_14 : decode cX4_addPair 14 = .ok (.aload_n 0, 1) := by decide +kernel
theorem dX4_addPair_15 : decode cX4_addPair 15 = .ok (.getfield 36, 3) := by decide +kernel
theorem dX4_addPair_18 : decode cX4_addPair 18 = .ok (.iload_n 1, 1) := by decide +kernel
theorem dX4_addPair_19 : decode cX4_addPair 19 = .ok (.iastore, 1) := by decide +kernel
theorem dX4_addPair_20 : decode cX4_addPair 20 = .ok (.aload_n 0, 1) := by decide +kernel
theorem dX4_addPair_21 : decode cX4_addPair 21 = .ok (.getfield 18, 3) := by decide +kernel
theorem dX4_addPair_24 : decode cX4_addPair 24 = .ok (.aload_n 0, 1) := by decide +kernel
theorem dX4_addPair_25 : decode cX4_addPair 25 = .ok (.getfield 36, 3) := by decide +kernel
theorem dX4_addPair_28 : decode cX4_addPair 28 = .ok (.iload_n 2, 1) := by decide +kernel
theorem dX4_addPair_29 : decode cX4_addPair 29 = .ok (.iastore, 1) := by decide +kernel
theorem dX4_addPair_30 : decode cX4_addPair 30 = .ok (.aload_n 0, 1) := by decide +kernel
theorem dX4_addPair_31 : decode cX4_addPair 31 = .ok (.getfield 21, 3) := by decide +kernel
theorem dX4_addPair_34 : decode cX4_addPair 34 = .ok (.aload_n 0, 1) := by decide +kernel
theorem dX4_addPair_35 : decode cX4_addPair 35 = .ok (.getfield 36, 3) := by decide +kernel
theorem dX4_addPair_38 : decode cX4_addPair 38 = .ok (.iload 4, 2) := by decide +kernel
theorem dX4_addPair_40 : decode cX4_addPair 40 = .ok (.iastore, 1) := by decide +kernel
theorem dX4_addPair_41 : decode cX4_addPair 41 = .ok (.aload_n 0, 1) := by decide +kernel
theorem dX4_addPair_42 : decode cX4_addPair 42 = .ok (.getfield 24, 3) := by decide +kernel
theorem dX4_addPair_45 : decode cX4_addPair 45 = .ok (.aload_n 0, 1) := by decide +kernel
theorem dX4_addPair_46 : decode cX4_addPair 46 = .ok (.getfield 36, 3) := by decide +kernel
theorem dX4_addPair_49 : decode cX4_addPair 49 = .ok (.iload_n 3, 1) := by decide +kernel
theorem dX4_addPair_50 : decode cX4_addPair 50 = .ok (.iastore, 1) := by decide +kernel
theorem dX4_addPair_51 : decode cX4_addPair 51 = .ok (.aload_n 0, 1) := by decide +kernel
theorem dX4_addPair_52 : decode cX4_addPair 52 = .ok (.getfield 27, 3) := by decide +kernel
theorem dX4_addPair_55 : decode cX4_addPair 55 = .ok (.aload_n 0, 1) := by decide +kernel
theorem dX4_addPair_56 : decode cX4_addPair 56 = .ok (.getfield 36, 3) := by decide +kernel
theorem dX4_addPair_59 : decode cX4_addPair 59 = .ok (.iconst 0, 1) := by decide +kernel
theorem dX4_addPair_60 : decode cX4_addPair 60 = .ok (.iastore, 1) := by decide +kernel
theorem dX4_addPair_61 : decode cX4_addPair 61 = .ok (.aload_n 0, 1) := by decide +kernel
theorem dX4_addPair_62 : decode cX4_addPair 62 = .ok (.dup, 1) := by decide +kernel
theorem dX4_addPair_63 : decode cX4_addPair 63 = .ok (.getfield 36, 3) := by decide +kernel
theorem dX4_addPair_66 : decode cX4_addPair 66 = .ok (.iconst 1, 1) := by decide +kernel
theorem dX4_addPair_67 : decode cX4_addPair 67 = .ok (.iadd, 1) := by decide +kernel
theorem dX4_addPair_68 : decode cX4_addPair 68 = .ok (.putfield 36, 3) := by decide +kernel
theorem dX4_addPair_71 : decode cX4_addPair 71 = .ok (.return_, 1) := by decide +kernel
theorem dX4_find_0 : decode cX4_find 0 = .ok (.iconst 0, 1) := by decide +kernel
theorem dX4_find_1 : decode cX4_find 1 = .ok (.istore_n 3, 1) := by decide +kernel
theorem dX4_find_2 : decode cX4_find 2 = .ok (.iload_n 3, 1) := by decide +kernel
theorem dX4_find_3 : decode cX4_find 3 = .ok (.aload_n 0, 1) := by decide +kernel
theorem dX4_find_4 : decode cX4_find 4 = .ok (.getfield 36, 3) := by decide +kernel
theorem dX4_find_7 : decode cX4_find 7 = .ok (.if_icmp .ge 26, 3) := by decide +kernel
theorem dX4_find_10 : decode cX4_find 10 = .ok (.iload_n 1, 1) := by decide +kernel
theorem dX4_find_11 : decode cX4_find 11 = .ok (.iload_n 2, 1) := by decide +kernel
theorem dX4_find_12 : decode cX4_find 12 = .ok (.if_icmp .eq 15, 3) := by decide +kernel
theorem dX4_find_15 : decode cX4_find 15 = .ok (.aload_n 0, 1) := by decide +kernel
theorem dX4_find_16 : decode cX4_find 16 = .ok (.iload_n 3, 1) := by decide +kernel
theorem dX4_find_17 : decode cX4_find 17 = .ok (.iload_n 1, 1) := by decide +kernel
theorem dX4_find_18 : decode cX4_find 18 = .ok (.invokevirtual 43, 3) := by decide +kernel
theorem dX4_find_21 : decode cX4_find 21 = .ok (.iload_n 2, 1) := by decide +kernel
theorem dX4_find_22 : decode cX4_find 22 = .ok (.if_icmp .ne 5, 3) := by decide +kernel
theorem dX4_find_25 : decode cX4_find 25 = .ok (.iload_n 3, 1) := by decide +kernel
theorem dX4_find_26 : decode cX4_find 26 = .ok (.ireturn, 1) := by decide +kernel
theorem dX4_find_27 : decode cX4_find 27 = .ok (.iinc 3 1, 3) := by decide +kernel
theorem dX4_find_30 : decode cX4_find 30 = .ok (.goto (-28), 3) := by decide +kernel
theorem dX4_find_33 : decode cX4_find 33 = .ok (.bipush (-2), 2) := by decide +kernel
theorem dX4_find_35 : decode cX4_find 35 = .ok (.ireturn, 1) := by decide +kernel
theorem dX4_partner_0 : decode cX4_partner 0 = .ok (.aload_n 0, 1) := by decide +kernel
theorem dX4_partner_1 : decode cX4_partner 1 = .ok (.getfield 15, 3) := by decide +kernel
theorem dX4_partner_4 : decode cX4_partner 4 = .ok (.iload_n 1, 1) := by decide +kernel
theorem dX4_partner_5 : decode cX4_partner 5 = .ok (.iaload, 1) := by decide +kernel
theorem dX4_partner_6 : decode cX4_partner 6 = .ok (.iload_n 2, 1) := by decide +kernel
theorem dX4_partner_7 : decode cX4_partner 7 = .ok (.if_icmp .ne 10, 3) := by decide +kernel
theorem dX4_partner_10 : decode cX4_partner 10 = .ok (.aload_n 0, 1) := by decide +kernel
theorem dX4_partner_11 : decode cX4_partner 11 = .ok (.getfield 18, 3) := by decide +kernel
theorem dX4_partner_14 : decode cX4_partner 14 = .ok (.iload_n 1, 1) := by decide +kernel
theorem dX4_partner_15 : decode cX4_partner 15 = .ok (.iaload, 1) := by decide +kernel
theorem dX4_partner_16 : decode cX4_partner 16 = .ok (.ireturn, 1) := by decide +kernel
theorem dX4_partner_17 : decode cX4_partner 17 = .ok (.aload_n 0, 1) := by decide +kernel
theorem dX4_partner_18 : decode cX4_partner 18 = .ok (.getfield 18, 3) := by decide +kernel
theorem dX4_partner_21 : decode cX4_partner 21 = .ok (.iload_n 1, 1) := by decide +kernel
theorem dX4_partner_22 : decode cX4_partner 22 = .ok (.iaload, 1) := by decide +kernel
theorem dX4_partner_23 : decode cX4_partner 23 = .ok (.iload_n 2, 1) := by decide +kernel
theorem dX4_partner_24 : decode cX4_partner 24 = .ok (.if_icmp .ne 12, 3) := by decide +kernel
theorem dX4_partner_27 : decode cX4_partner 27 = .ok (.aload_n 0, 1) := by decide +kernel
theorem dX4_partner_28 : decode cX4_partner 28 = .ok (.getfield 15, 3) := by decide +kernel
theorem dX4_partner_31 : decode cX4_partner 31 = .ok (.iload_n 1, 1) := by decide +kernel
theorem dX4_partner_32 : decode cX4_partner 32 = .ok (.iaload, 1) := by decide +kernel
theorem dX4_partner_33 : decode cX4_partner 33 = .ok (.goto 5, 3) := by decide +kernel
theorem dX4_partner_36 : decode cX4_partner 36 = .ok (.bipush (-2), 2) := by decide +kernel
theorem dX4_partner_38 : decode cX4_partner 38 = .ok (.ireturn, 1) := by decide +kernel
theorem dX4_both_0 : decode cX4_both 0 = .ok (.iconst 1, 1) := by decide +kernel
theorem dX4_both_1 : decode cX4_both 1 = .ok (.aload_n 0, 1) := by decide +kernel
theorem dX4_both_2 : decode cX4_both 2 = .ok (.getfield 15, 3) := by decide +kernel
theorem dX4_both_5 : decode cX4_both 5 = .ok (.iload_n 1, 1) := by decide +kernel
theorem dX4_both_6 : decode cX4_both 6 = .ok (.iaload, 1) := by decide +kernel
theorem dX4_both_7 : decode cX4_both 7 = .ok (.ishl, 1) := by decide +kernel
theorem dX4_both_8 : decode cX4_both 8 = .ok (.iconst 1, 1) := by decide +kernel
theorem dX4_both_9 : decode cX4_both 9 = .ok (.aload_n 0, 1) := by decide +kernel
theorem dX4_both_10 : decode cX4_both 10 = .ok (.getfield 18, 3) := by decide +kernel
theorem dX4_both_13 : decode cX4_both 13 = .ok (.iload_n 1, 1) := by decide +kernel
theorem dX4_both_14 : decode cX4_both 14 = .ok (.iaload, 1) := by decide +kernel
theorem dX4_both_15 : decode cX4_both 15 = .ok (.ishl, 1) := by decide +kernel
theorem dX4_both_16 : decode cX4_both 16 = .ok (.ior, 1) := by decide +kernel
theorem dX4_both_17 : decode cX4_both 17 = .ok (.ireturn, 1) := by decide +kernel
theorem dX4_handle_0 : decode cX4_handle 0 = .ok (.aload_n 0, 1) := by decide +kernel
theorem dX4_handle_1 : decode cX4_handle 1 = .ok (.iload_n 1, 1) := by decide +kernel
theorem dX4_handle_2 : decode cX4_handle 2 = .ok (.iconst 0, 1) := by decide +kernel
theorem dX4_handle_3 : decode cX4_handle 3 = .ok (.invokevirtual 47, 3) := by decide +kernel
theorem dX4_handle_6 : decode cX4_handle 6 = .ok (.ireturn, 1) := by decide +kernel
theorem dX4_handleBehind_0 : decode cX4_handleBehind 0 = .ok (.aload_n 0, 1) := by decide +kernel
theorem dX4_handleBehind_1 : decode cX4_handleBehind 1 = .ok (.getfield 21, 3) := by decide +kernel
theorem dX4_handleBehind_4 : decode cX4_handleBehind 4 = .ok (.iload_n 1, 1) := by decide +kernel
theorem dX4_handleBehind_5 : decode cX4_handleBehind 5 = .ok (.iaload, 1) := by decide +kernel
theorem dX4_handleBehind_6 : decode cX4_handleBehind 6 = .ok (.iconst 2, 1) := by decide +kernel
theorem dX4_handleBehind_7 : decode cX4_handleBehind 7 = .ok (.if_icmp .ne 7, 3) := by decide +kernel
theorem dX4_handleBehind_10 : decode cX4_handleBehind 10 = .ok (.iconst 1, 1) := by decide +kernel
theorem dX4_handleBehind_11 : decode cX4_handleBehind 11 = .ok (.goto 22, 3) := by decide +kernel
theorem dX4_handleBehind_14 : decode cX4_handleBehind 14 = .ok (.iconst 0, 1) := by decide +kernel
theorem dX4_handleBehind_15 : decode cX4_handleBehind 15 = .ok (.aload_n 0, 1) := by decide +kernel
theorem dX4_handleBehind_16 : decode cX4_handleBehind 16 = .ok (.getfield 24, 3) := by decide +kernel
theorem dX4_handleBehind_19 : decode cX4_handleBehind 19 = .ok (.iload_n 1, 1) := by decide +kernel
theorem dX4_handleBehind_20 : decode cX4_handleBehind 20 = .ok (.iaload, 1) := by decide +kernel
theorem dX4_handleBehind_21 : decode cX4_handleBehind 21 = .ok (.aload_n 0, 1) := by decide +kernel
theorem dX4_handleBehind_22 : decode cX4_handleBehind 22 = .ok (.getfield 27, 3) := by decide +kernel
theorem dX4_handleBehind_25 : decode cX4_handleBehind 25 = .ok (.iload_n 1, 1) := by decide +kernel
theorem dX4_handleBehind_26 : decode cX4_handleBehind 26 = .ok (.iaload, 1) := by decide +kernel
theorem dX4_handleBehind_27 : decode cX4_handleBehind 27 = .ok (.isub, 1) := by decide +kernel
theorem dX4_handleBehind_28 : decode cX4_handleBehind 28 = .ok (.invokestatic 50, 3) := by decide +kernel
theorem dX4_handleBehind_31 : decode cX4_handleBehind 31 = .ok (.iload_n 2, 1) := by decide +kernel
theorem dX4_handleBehind_32 : decode cX4_handleBehind 32 = .ok (.iadd, 1) := by decide +kernel
theorem dX4_handleBehind_33 : decode cX4_handleBehind 33 = .ok (.ireturn, 1) := by decide +kernel
theorem dX4_far_0 : decode cX4_far 0 = .ok (.aload_n 0, 1) := by decide +kernel
theorem dX4_far_1 : decode cX4_far 1 = .ok (.getfield 9, 3) := by decide +kernel
theorem dX4_far_4 : decode cX4_far 4 = .ok (.aload_n 0, 1) := by decide +kernel
theorem dX4_far_5 : decode cX4_far 5 = .ok (.getfield 15, 3) := by decide +kernel
theorem dX4_far_8 : decode cX4_far 8 = .ok (.iload_n 1, 1) := by decide +kernel
theorem dX4_far_9 : decode cX4_far 9 = .ok (.iaload, 1) := by decide +kernel
theorem dX4_far_10 : decode cX4_far 10 = .ok (.iaload, 1) := by decide +kernel
theorem dX4_far_11 : decode cX4_far 11 = .ok (.aload_n 0, 1) := by decide +kernel
theorem dX4_far_12 : decode cX4_far 12 = .ok (.getfield 9, 3) := by decide +kernel
theorem dX4_far_15 : decode cX4_far 15 = .ok (.aload_n 0, 1) := by decide +kernel
theorem dX4_far_16 : decode cX4_far 16 = .ok (.getfield 18, 3) := by decide +kernel
theorem dX4_far_19 : decode cX4_far 19 = .ok (.iload_n 1, 1) := by decide +kernel
theorem dX4_far_20 : decode cX4_far 20 = .ok (.iaload, 1) := by decide +kernel
theorem dX4_far_21 : decode cX4_far 21 = .ok (.iaload, 1) := by decide +kernel
theorem dX4_far_22 : decode cX4_far 22 = .ok (.isub, 1) := by decide +kernel
theorem dX4_far_23 : decode cX4_far 23 = .ok (.invokestatic 55, 3) := by decide +kernel
theorem dX4_far_26 : decode cX4_far 26 = .ok (.ireturn, 1) := by decide +kernel
theorem dX4_passYears_0 : decode cX4_passYears 0 = .ok (.iconst 0, 1) := by decide +kernel
theorem dX4_passYears_1 : decode cX4_passYears 1 = .ok (.istore_n 2, 1) := by decide +kernel
theorem dX4_passYears_2 : decode cX4_passYears 2 = .ok (.iload_n 2, 1) := by decide +kernel
theorem dX4_passYears_3 : decode cX4_passYears 3 = .ok (.aload_n 0, 1) := by decide +kernel
theorem dX4_passYears_4 : decode cX4_passYears 4 = .ok (.getfield 36, 3) := by decide +kernel
theorem dX4_passYears_7 : decode cX4_passYears 7 = .ok (.if_icmp .ge 19, 3) := by decide +kernel
theorem dX4_passYears_10 : decode cX4_passYears 10 = .ok (.aload_n 0, 1) := by decide +kernel
theorem dX4_passYears_11 : decode cX4_passYears 11 = .ok (.getfield 24, 3) := by decide +kernel
theorem dX4_passYears_14 : decode cX4_passYears 14 = .ok (.iload_n 2, 1) := by decide +kernel
theorem dX4_passYears_15 : decode cX4_passYears 15 = .ok (.dup2, 1) := by decide +kernel
theorem dX4_passYears_16 : decode cX4_passYears 16 = .ok (.iaload, 1) := by decide +kernel
theorem dX4_passYears_17 : decode cX4_passYears 17 = .ok (.iload_n 1, 1) := by decide +kernel
theorem dX4_passYears_18 : decode cX4_passYears 18 = .ok (.iadd, 1) := by decide +kernel
theorem dX4_passYears_19 : decode cX4_passYears 19 = .ok (.iastore, 1) := by decide +kernel
theorem dX4_passYears_20 : decode cX4_passYears 20 = .ok (.iinc 2 1, 3) := by decide +kernel
theorem dX4_passYears_23 : decode cX4_passYears 23 = .ok (.goto (-21), 3) := by decide +kernel
theorem dX4_passYears_26 : decode cX4_passYears 26 = .ok (.aload_n 0, 1) := by decide +kernel
theorem dX4_passYears_27 : decode cX4_passYears 27 = .ok (.dup, 1) := by decide +kernel
theorem dX4_passYears_28 : decode cX4_passYears 28 = .ok (.getfield 40, 3) := by decide +kernel
theorem dX4_passYears_31 : decode cX4_passYears 31 = .ok (.iload_n 1, 1) := by decide +kernel
theorem dX4_passYears_32 : decode cX4_passYears 32 = .ok (.iadd, 1) := by decide +kernel
theorem dX4_passYears_33 : decode cX4_passYears 33 = .ok (.putfield 40, 3) := by decide +kernel
theorem dX4_passYears_36 : decode cX4_passYears 36 = .ok (.return_, 1) := by decide +kernel
theorem dX5_init_0 : decode cX5_init 0 = .ok (.aload_n 0, 1) := by decide +kernel
theorem dX5_init_1 : decode cX5_init 1 = .ok (.invokespecial 3, 3) := by decide +kernel
theorem dX5_init_4 : decode cX5_init 4 = .ok (.aload_n 0, 1) := by decide +kernel
theorem dX5_init_5 : decode cX5_init 5 = .ok (.new 9, 3) := by decide +kernel
theorem dX5_init_8 : decode cX5_init 8 = .ok (.dup, 1) := by decide +kernel
theorem dX5_init_9 : decode cX5_init 9 = .ok (.invokespecial 11, 3) := by decide +kernel
theorem dX5_init_12 : decode cX5_init 12 = .ok (.putfield 12, 3) := by decide +kernel
theorem dX5_init_15 : decode cX5_init 15 = .ok (.aload_n 0, 1) := by decide +kernel
theorem dX5_init_16 : decode cX5_init 16 = .ok (.new 18, 3) := by decide +kernel
theorem dX5_init_19 : decode cX5_init 19 = .ok (.dup, 1) := by decide +kernel
theorem dX5_init_20 : decode cX5_init 20 = .ok (.invokespecial 20, 3) := by decide +kernel
theorem dX5_init_23 : decode cX5_init 23 = .ok (.putfield 21, 3) := by decide +kernel
theorem dX5_init_26 : decode cX5_init 26 = .ok (.aload_n 0, 1) := by decide +kernel
theorem dX5_init_27 : decode cX5_init 27 = .ok (.iconst 5, 1) := by decide +kernel
theorem dX5_init_28 : decode cX5_init 28 = .ok (.newarray .long, 2) := by decide +kernel
theorem dX5_init_30 : decode cX5_init 30 = .ok (.putfield 25, 3) := by decide +kernel
theorem dX5_init_33 : decode cX5_init 33 = .ok (.return_, 1) := by decide +kernel
theorem dX5_readAll_0 : decode cX5_readAll 0 = .ok (.aload_n 0, 1) := by decide +kernel
theorem dX5_readAll_1 : decode cX5_readAll 1 = .ok (.getfield 21, 3) := by decide +kernel
theorem dX5_readAll_4 : decode cX5_readAll 4 = .ok (.invokevirtual 29, 3) := by decide +kernel
theorem dX5_readAll_7 : decode cX5_readAll 7 = .ok (.aload_n 0, 1) := by decide +kernel
theorem dX5_readAll_8 : decode cX5_readAll 8 = .ok (.iconst 0, 1) := by decide +kernel
theorem dX5_readAll_9 : decode cX5_readAll 9 = .ok (.putfield 32, 3) := by decide +kernel
theorem dX5_readAll_12 : decode cX5_readAll 12 = .ok (.aload_n 0, 1) := by decide +kernel
theorem dX5_readAll_13 : decode cX5_readAll 13 = .ok (.iconst (-1), 1) := by decide +kernel
theorem dX5_readAll_14 : decode cX5_readAll 14 = .ok (.putfield 36, 3) := by decide +kernel
theorem dX5_readAll_17 : decode cX5_readAll 17 = .ok (.aload_n 0, 1) := by decide +kernel
theorem dX5_readAll_18 : decode cX5_readAll 18 = .ok (.getfield 12, 3) := by decide +kernel
theorem dX5_readAll_21 : decode cX5_readAll 21 = .ok (.iload_n 1, 1) := by decide +kernel
theorem dX5_readAll_22 : decode cX5_readAll 22 = .ok (.invokevirtual 39, 3) := by decide +kernel
theorem dX5_readAll_25 : decode cX5_readAll 25 = .ok (.iconst 0, 1) := by decide +kernel
theorem dX5_readAll_26 : decode cX5_readAll 26 = .ok (.istore_n 2, 1) := by decide +kernel
theorem dX5_readAll_27 : decode cX5_readAll 27 = .ok (.iload_n 2, 1) := by decide +kernel
theorem dX5_readAll_28 : decode cX5_readAll 28 = .ok (.iload_n 1, 1) := by decide +kernel
theorem dX5_readAll_29 : decode cX5_readAll 29 = .ok (.if_icmp .gt 77, 3) := by decide +kernel
theorem dX5_readAll_32 : decode cX5_readAll 32 = .ok (.aload_n 0, 1) := by decide +kernel
theorem dX5_readAll_33 : decode cX5_readAll 33 = .ok (.invokevirtual 43, 3) := by decide +kernel
theorem dX5_readAll_36 : decode cX5_readAll 36 = .ok (.ifCond .ne 5, 3) := by decide +kernel
theorem dX5_readAll_39 : decode cX5_readAll 39 = .ok (.iconst 0, 1) := by decide +kernel
theorem dX5_readAll_40 : decode cX5_readAll 40 = .ok (.ireturn, 1) := by decide +kernel
theorem dX5_readAll_41 : decode cX5_readAll 41 = .ok (.aload_n 0, 1) := by decide +kernel
theorem dX5_readAll_42 : decode cX5_readAll 42 = .ok (.getfield 12, 3) := by decide +kernel
theorem dX5_readAll_45 : decode cX5_readAll 45 = .ok (.getfield 47, 3) := by decide +kernel
theorem dX5_readAll_48 : decode cX5_readAll 48 = .ok (.ifCond .ne 28, 3) := by decide +kernel
theorem dX5_readAll_51 : decode cX5_readAll 51 = .ok (.aload_n 0, 1) := by decide +kernel
theorem dX5_readAll_52 : decode cX5_readAll 52 = .ok (.getfield 21, 3) := by decide +kernel
theorem dX5_readAll_55 : decode cX5_readAll 55 = .ok (.getfield 50, 3) := by decide +kernel
theorem dX5_readAll_58 : decode cX5_readAll 58 = .ok (.ifCond .gt 12, 3) := by decide +kernel
theorem dX5_readAll_61 : decode cX5_readAll 61 = .ok (.aload_n 0, 1) := by decide +kernel
theorem dX5_readAll_62 : decode cX5_readAll 62 = .ok (.bipush 6, 2) := by decide +kernel
theorem dX5_readAll_64 : decode cX5_readAll 64 = .ok (.invokevirtual 53, 3) := by decide +kernel
theorem dX5_readAll_67 : decode cX5_readAll 67 = .ok (.ifCond .eq 7, 3) := by decide +kernel
theorem dX5_readAll_70 : decode cX5_readAll 70 = .ok (.iconst 1, 1) := by decide +kernel
theorem dX5_readAll_71 : decode cX5_readAll 71 = .ok (.goto 4, 3) := by decide +kernel
theorem dX5_readAll_74 : decode cX5_readAll 74 = .ok (.iconst 0, 1) := by decide +kernel
theorem dX5_readAll_75 : decode cX5_readAll 75 = .ok (.ireturn, 1) := by decide +kernel
theorem dX5_readAll_76 : decode cX5_readAll 76 = .ok (.aload_n 0, 1) := by decide +kernel
theorem dX5_readAll_77 : decode cX5_readAll 77 = .ok (.getfield 12, 3) := by decide +kernel
theorem dX5_readAll_80 : decode cX5_readAll 80 = .ok (.getfield 47, 3) := by decide +kernel
theorem dX5_readAll_83 : decode cX5_readAll 83 = .ok (.iconst 3, 1) := by decide +kernel
theorem dX5_readAll_84 : decode cX5_readAll 84 = .ok (.if_icmp .eq 9, 3) := by decide +kernel
theorem dX5_readAll_87 : decode cX5_readAll 87 = .ok (.aload_n 0, 1) := by decide +kernel
theorem dX5_readAll_88 : decode cX5_readAll 88 = .ok (.iconst 1, 1) := by decide +kernel
theorem dX5_readAll_89 : decode cX5_readAll 89 = .ok (.invokevirtual 53, 3) := by decide +kernel
theorem dX5_readAll_92 : decode cX5_readAll 92 = .ok (.ireturn, 1) := by decide +kernel
theorem dX5_readAll_93 : decode cX5_readAll 93 = .ok (.aload_n 0, 1) := by decide +kernel
theorem dX5_readAll_94 : decode cX5_readAll 94 = .ok (.getfield 12, 3) := by decide +kernel
theorem dX5_readAll_97 : decode cX5_readAll 97 = .ok (.invokevirtual 57, 3) := by decide +kernel
theorem dX5_readAll_100 : decode cX5_readAll 100 = .ok (.iinc 2 1, 3) := by decide +kernel
theorem dX5_readAll_103 : decode cX5_readAll 103 = .ok (.goto (-76), 3) := by decide +kernel
theorem dX5_readAll_106 : decode cX5_readAll 106 = .ok (.aload_n 0, 1) := by decide +kernel
theorem dX5_readAll_107 : decode cX5_readAll 107 = .ok (.iconst 1, 1) := by decide +kernel
theorem dX5_readAll_108 : decode cX5_readAll 108 = .ok (.invokevirtual 53, 3) := by decide +kernel
theorem dX5_readAll_111 : decode cX5_readAll 111 = .ok (.ireturn, 1) := by decide +kernel
theorem dX5_wrong_0 : decode cX5_wrong 0 = .ok (.aload_n 0, 1) := by decide +kernel
theorem dX5_wrong_1 : decode cX5_wrong 1 = .ok (.iload_n 1, 1) := by decide +kernel
theorem dX5_wrong_2 : decode cX5_wrong 2 = .ok (.putfield 32, 3) := by decide +kernel
theorem dX5_wrong_5 : decode cX5_wrong 5 = .ok (.aload_n 0, 1) := by decide +kernel
theorem dX5_wrong_6 : decode cX5_wrong 6 = .ok (.aload_n 0, 1) := by decide +kernel
theorem dX5_wrong_7 : decode cX5_wrong 7 = .ok (.getfield 12, 3) := by decide +kernel
theorem dX5_wrong_10 : decode cX5_wrong 10 = .ok (.getfield 60, 3) := by decide +kernel
theorem dX5_wrong_13 : decode cX5_wrong 13 = .ok (.putfield 36, 3) := by decide +kernel
theorem dX5_wrong_16 : decode cX5_wrong 16 = .ok (.iconst 0, 1) := by decide +kernel
theorem dX5_wrong_17 : decode cX5_wrong 17 = .ok (.ireturn, 1) := by decide +kernel
theorem dX5_useOfWord_0 : decode cX5_useOfWord 0 = .ok (.aload_n 0, 1) := by decide +kernel
theorem dX5_useOfWord_1 : decode cX5_useOfWord 1 = .ok (.getfield 12, 3) := by decide +kernel
theorem dX5_useOfWord_4 : decode cX5_useOfWord 4 = .ok (.getfield 63, 3) := by decide +kernel
theorem dX5_useOfWord_7 : decode cX5_useOfWord 7 = .ok (.lstore_n 1, 1) := by decide +kernel
theorem dX5_useOfWord_8 : decode cX5_useOfWord 8 = .ok (.lload_n 1, 1) := by decide +kernel
theorem dX5_useOfWord_9 : decode cX5_useOfWord 9 = .ok (.ldc2_w 67, 3) := by decide +kernel
theorem dX5_useOfWord_12 : decode cX5_useOfWord 12 = .ok (.lcmp, 1) := by decide +kernel
theorem dX5_useOfWord_13 : decode cX5_useOfWord 13 = .ok (.ifCond .ne 5, 3) := by decide +kernel
theorem dX5_useOfWord_16 : decode cX5_useOfWord 16 = .ok (.iconst 0, 1) := by decide +kernel
theorem dX5_useOfWord_17 : decode cX5_useOfWord 17 = .ok (.ireturn, 1) := by decide +kernel
theorem dX5_useOfWord_18 : decode cX5_useOfWord 18 = .ok (.lload_n 1, 1) := by decide +kernel
theorem dX5_useOfWord_19 : decode cX5_useOfWord 19 = .ok (.ldc2_w 69, 3) := by decide +kernel
theorem dX5_useOfWord_22 : decode cX5_useOfWord 22 = .ok (.lcmp, 1) := by decide +kernel
theorem dX5_useOfWord_23 : decode cX5_useOfWord 23 = .ok (.ifCond .ne 5, 3) := by decide +kernel
theorem dX5_useOfWord_26 : decode cX5_useOfWord 26 = .ok (.iconst 1, 1) := by decide +kernel
theorem dX5_useOfWord_27 : decode cX5_useOfWord 27 = .ok (.ireturn, 1) := by decide +kernel
theorem dX5_useOfWord_28 : decode cX5_useOfWord 28 = .ok (.lload_n 1, 1) := by decide +kernel
theorem dX5_useOfWord_29 : decode cX5_useOfWord 29 = .ok (.ldc2_w 71, 3) := by decide +kernel
theorem dX5_useOfWord_32 : decode cX5_useOfWord 32 = .ok (.lcmp, 1) := by decide +kernel
theorem dX5_useOfWord_33 : decode cX5_useOfWord 33 = .ok (.ifCond .ne 5, 3) := by decide +kernel
theorem dX5_useOfWord_36 : decode cX5_useOfWord 36 = .ok (.iconst 2, 1) := by decide +kernel
theorem dX5_useOfWord_37 : decode cX5_useOfWord 37 = .ok (.ireturn, 1) := by decide +kernel
theorem dX5_useOfWord_38 : decode cX5_useOfWord 38 = .ok (.lload_n 1, 1) := by decide +kernel
theorem dX5_useOfWord_39 : decode cX5_useOfWord 39 = .ok (.ldc2_w 73, 3) := by decide +kernel
theorem dX5_useOfWord_42 : decode cX5_useOfWord 42 = .ok (.lcmp, 1) := by decide +kernel
theorem dX5_useOfWord_43 : decode cX5_useOfWord 43 = .ok (.ifCond .ne 5, 3) := by decide +kernel
theorem dX5_useOfWord_46 : decode cX5_useOfWord 46 = .ok (.iconst 3, 1) := by decide +kernel
theorem dX5_useOfWord_47 : decode cX5_useOfWord 47 = .ok (.ireturn, 1) := by decide +kernel
theorem dX5_useOfWord_48 : decode cX5_useOfWord 48 = .ok (.lload_n 1, 1) := by decide +kernel
theorem dX5_useOfWord_49 : decode cX5_useOfWord 49 = .ok (.ldc2_w 75, 3) := by decide +kernel
theorem dX5_useOfWord_52 : decode cX5_useOfWord 52 = .ok (.lcmp, 1) := by decide +kernel
theorem dX5_useOfWord_53 : decode cX5_useOfWord 53 = .ok (.ifCond .ne 5, 3) := by decide +kernel
theorem dX5_useOfWord_56 : decode cX5_useOfWord 56 = .ok (.iconst 4, 1) := by decide +kernel
theorem dX5_useOfWord_57 : decode cX5_useOfWord 57 = .ok (.ireturn, 1) := by decide +kernel
theorem dX5_useOfWord_58 : decode cX5_useOfWord 58 = .ok (.lload_n 1, 1) := by decide +kernel
theorem dX5_useOfWord_59 : decode cX5_useOfWord 59 = .ok (.ldc2_w 77, 3) := by decide +kernel
theorem dX5_useOfWord_62 : decode cX5_useOfWord 62 = .ok (.lcmp, 1) := by decide +kernel
theorem dX5_useOfWord_63 : decode cX5_useOfWord 63 = .ok (.ifCond .ne 5, 3) := by decide +kernel
theorem dX5_useOfWord_66 : decode cX5_useOfWord 66 = .ok (.iconst 5, 1) := by decide +kernel
theorem dX5_useOfWord_67 : decode cX5_useOfWord 67 = .ok (.ireturn, 1) := by decide +kernel
theorem dX5_useOfWord_68 : decode cX5_useOfWord 68 = .ok (.lload_n 1, 1) := by decide +kernel
theorem dX5_useOfWord_69 : decode cX5_useOfWord 69 = .ok (.lconst 0, 1) := by decide +kernel
theorem dX5_useOfWord_70 : decode cX5_useOfWord 70 = .ok (.lcmp, 1) := by decide +kernel
theorem dX5_useOfWord_71 : decode cX5_useOfWord 71 = .ok (.ifCond .eq 8, 3) := by decide +kernel
theorem dX5_useOfWord_74 : decode cX5_useOfWord 74 = .ok (.bipush 6, 2) := by decide +kernel
theorem dX5_useOfWord_76 : decode cX5_useOfWord 76 = .ok (.goto 5, 3) := by decide +kernel
theorem dX5_useOfWord_79 : decode cX5_useOfWord 79 = .ok (.bipush 7, 2) := by decide +kernel
theorem dX5_useOfWord_81 : decode cX5_useOfWord 81 = .ok (.ireturn, 1) := by decide +kernel
theorem dX5_readLine_0 : decode cX5_readLine 0 = .ok (.aload_n 0, 1) := by decide +kernel
theorem dX5_readLine_1 : decode cX5_readLine 1 = .ok (.invokevirtual 79, 3) := by decide +kernel
theorem dX5_readLine_4 : decode cX5_readLine 4 = .ok (.istore_n 1, 1) := by decide +kernel
theorem dX5_readLine_5 : decode cX5_readLine 5 = .ok (.iload_n 1, 1) := by decide +kernel
theorem dX5_readLine_6 : decode cX5_readLine 6 = .ok (.bipush 6, 2) := by decide +kernel
theorem dX5_readLine_8 : decode cX5_readLine 8 = .ok (.if_icmp .lt 9, 3) := by decide +kernel
theorem dX5_readLine_11 : decode cX5_readLine 11 = .ok (.aload_n 0, 1) := by decide +kernel
theorem dX5_readLine_12 : decode cX5_readLine 12 = .ok (.iconst 1, 1) := by decide +kernel
theorem dX5_readLine_13 : decode cX5_readLine 13 = .ok (.invokevirtual 53, 3) := by decide +kernel
theorem dX5_readLine_16 : decode cX5_readLine 16 = .ok (.ireturn, 1) := by decide +kernel
theorem dX5_readLine_17 : decode cX5_readLine 17 = .ok (.aload_n 0, 1) := by decide +kernel
theorem dX5_readLine_18 : decode cX5_readLine 18 = .ok (.getfield 21, 3) := by decide +kernel
theorem dX5_readLine_21 : decode cX5_readLine 21 = .ok (.getfield 83, 3) := by decide +kernel
theorem dX5_readLine_24 : decode cX5_readLine 24 = .ok (.ifCond .le 7, 3) := by decide +kernel
theorem dX5_readLine_27 : decode cX5_readLine 27 = .ok (.iconst 1, 1) := by decide +kernel
theorem dX5_readLine_28 : decode cX5_readLine 28 = .ok (.goto 4, 3) := by decide +kernel
theorem dX5_readLine_31 : decode cX5_readLine 31 = .ok (.iconst 0, 1) := by decide +kernel
theorem dX5_readLine_32 : decode cX5_readLine 32 = .ok (.istore_n 2, 1) := by decide +kernel
theorem dX5_readLine_33 : decode cX5_readLine 33 = .ok (.iload_n 1, 1) := by decide +kernel
theorem dX5_readLine_34 : decode cX5_readLine 34 = .ok (.ifCond .ne 13, 3) := by decide +kernel
theorem dX5_readLine_37 : decode cX5_readLine 37 = .ok (.iload_n 2, 1) := by decide +kernel
theorem dX5_readLine_38 : decode cX5_readLine 38 = .ok (.ifCond .eq 9, 3) := by decide +kernel
theorem dX5_readLine_41 : decode cX5_readLine 41 = .ok (.aload_n 0, 1) := by decide +kernel
theorem dX5_readLine_42 : decode cX5_readLine 42 = .ok (.iconst 3, 1) := by decide +kernel
theorem dX5_readLine_43 : decode cX5_readLine 43 = .ok (.invokevirtual 53, 3) := by decide +kernel
theorem dX5_readLine_46 : decode cX5_readLine 46 = .ok (.ireturn, 1) := by decide +kernel
theorem dX5_readLine_47 : decode cX5_readLine 47 = .ok (.iload_n 1, 1) := by decide +kernel
theorem dX5_readLine_48 : decode cX5_readLine 48 = .ok (.ifCond .eq 14, 3) := by decide +kernel
theorem dX5_readLine_51 : decode cX5_readLine 51 = .ok (.iload_n 2, 1) := by decide +kernel
theorem dX5_readLine_52 : decode cX5_readLine 52 = .ok (.ifCond .ne 10, 3) := by decide +kernel
theorem dX5_readLine_55 : decode cX5_readLine 55 = .ok (.aload_n 0, 1) := by decide +kernel
theorem dX5_readLine_56 : decode cX5_readLine 56 = .ok (.bipush 6, 2) := by decide +kernel
theorem dX5_readLine_58 : decode cX5_readLine 58 = .ok (.invokevirtual 53, 3) := by decide +kernel
theorem dX5_readLine_61 : decode cX5_readLine 61 = .ok (.ireturn, 1) := by decide +kernel
theorem dX5_readLine_62 : decode cX5_readLine 62 = .ok (.aload_n 0, 1) := by decide +kernel
theorem dX5_readLine_63 : decode cX5_readLine 63 = .ok (.iload_n 1, 1) := by decide +kernel
theorem dX5_readLine_64 : decode cX5_readLine 64 = .ok (.invokevirtual 86, 3) := by decide +kernel
theorem dX5_readLine_67 : decode cX5_readLine 67 = .ok (.ifCond .eq 9, 3) := by decide +kernel
theorem dX5_readLine_70 : decode cX5_readLine 70 = .ok (.aload_n 0, 1) := by decide +kernel
theorem dX5_readLine_71 : decode cX5_readLine 71 = .ok (.iconst 5, 1) := by decide +kernel
theorem dX5_readLine_72 : decode cX5_readLine 72 = .ok (.invokevirtual 53, 3) := by decide +kernel
theorem dX5_readLine_75 : decode cX5_readLine 75 = .ok (.ireturn, 1) := by decide +kernel
theorem dX5_readLine_76 : decode cX5_readLine 76 = .ok (.aload_n 0, 1) := by decide +kernel
theorem dX5_readLine_77 : decode cX5_readLine 77 = .ok (.getfield 12, 3) := by decide +kernel
theorem dX5_readLine_80 : decode cX5_readLine 80 = .ok (.invokevirtual 57, 3) := by decide +kernel
theorem dX5_readLine_83 : decode cX5_readLine 83 = .ok (.iload_n 1, 1) := by decide +kernel
theorem dX5_readLine_84 : decode cX5_readLine 84 = .ok (.tableswitch 61 0 4 #[36, 41, 46, 51, 56], 36) := by decide +kernel
theorem dX5_readLine_120 : decode cX5_readLine 120 = .ok (.aload_n 0, 1) := by decide +kernel
theorem dX5_readLine_121 : decode cX5_readLine 121 = .ok (.invokevirtual 89, 3) := by decide +kernel
theorem dX5_readLine_124 : decode cX5_readLine 124 = .ok (.ireturn, 1) := by decide +kernel
theorem dX5_readLine_125 : decode cX5_readLine 125 = .ok (.aload_n 0, 1) := by decide +kernel
theorem dX5_readLine_126 : decode cX5_readLine 126 = .ok (.invokevirtual 92, 3) := by decide +kernel
theorem dX5_readLine_129 : decode cX5_readLine 129 = .ok (.ireturn, 1) := by decide +kernel
theorem dX5_readLine_130 : decode cX5_readLine 130 = .ok (.aload_n 0, 1) := by decide +kernel
theorem dX5_readLine_131 : decode cX5_readLine 131 = .ok (.invokevirtual 95, 3) := by decide +kernel
theorem dX5_readLine_134 : decode cX5_readLine 134 = .ok (.ireturn, 1) := by decide +kernel
theorem dX5_readLine_135 : decode cX5_readLine 135 = .ok (.aload_n 0, 1) := by decide +kernel
theorem dX5_readLine_136 : decode cX5_readLine 136 = .ok (.invokevirtual 98, 3) := by decide +kernel
theorem dX5_readLine_139 : decode cX5_readLine 139 = .ok (.ireturn, 1) := by decide +kernel
theorem dX5_readLine_140 : decode cX5_readLine 140 = .ok (.aload_n 0, 1) := by decide +kernel
theorem dX5_readLine_141 : decode cX5_readLine 141 = .ok (.invokevirtual 101, 3) := by decide +kernel
theorem dX5_readLine_144 : decode cX5_readLine 144 = .ok (.ireturn, 1) := by decide +kernel
theorem dX5_readLine_145 : decode cX5_readLine 145 = .ok (.aload_n 0, 1) := by decide +kernel
theorem dX5_readLine_146 : decode cX5_readLine 146 = .ok (.invokevirtual 104, 3) := by decide +kernel
theorem dX5_readLine_149 : decode cX5_readLine 149 = .ok (.ireturn, 1) := by decide +kernel
theorem dX5_isFull_0 : decode cX5_isFull 0 = .ok (.iload_n 1, 1) := by decide +kernel
theorem dX5_isFull_1 : decode cX5_isFull 1 = .ok (.tableswitch 128 1 5 #[35, 52, 72, 93, 110], 35) := by decide +kernel
theorem dX5_isFull_36 : decode cX5_isFull 36 = .ok (.aload_n 0, 1) := by decide +kernel
theorem dX5_isFull_37 : decode cX5_isFull 37 = .ok (.getfield 21, 3) := by decide +kernel
theorem dX5_isFull_40 : decode cX5_isFull 40 = .ok (.getfield 50, 3) := by decide +kernel
theorem dX5_isFull_43 : decode cX5_isFull 43 = .ok (.iconst 5, 1) := by decide +kernel
theorem dX5_isFull_44 : decode cX5_isFull 44 = .ok (.if_icmp .lt 7, 3) := by decide +kernel
theorem dX5_isFull_47 : decode cX5_isFull 47 = .ok (.iconst 1, 1) := by decide +kernel
theorem dX5_isFull_48 : decode cX5_isFull 48 = .ok (.goto 4, 3) := by decide +kernel
theorem dX5_isFull_51 : decode cX5_isFull 51 = .ok (.iconst 0, 1) := by decide +kernel
theorem dX5_isFull_52 : decode cX5_isFull 52 = .ok (.ireturn, 1) := by decide +kernel
theorem dX5_isFull_53 : decode cX5_isFull 53 = .ok (.aload_n 0, 1) := by decide +kernel
theorem dX5_isFull_54 : decode cX5_isFull 54 = .ok (.getfield 21, 3) := by decide +kernel
theorem dX5_isFull_57 : decode cX5_isFull 57 = .ok (.getfield 107, 3) := by decide +kernel
theorem dX5_isFull_60 : decode cX5_isFull 60 = .ok (.invokestatic 110, 3) := by decide +kernel
theorem dX5_isFull_63 : decode cX5_isFull 63 = .ok (.iconst 4, 1) := by decide +kernel
theorem dX5_isFull_64 : decode cX5_isFull 64 = .ok (.if_icmp .lt 7, 3) := by decide +kernel
theorem dX5_isFull_67 : decode cX5_isFull 67 = .ok (.iconst 1, 1) := by decide +kernel
theorem dX5_isFull_68 : decode cX5_isFull 68 = .ok (.goto 4, 3) := by decide +kernel
theorem dX5_isFull_71 : decode cX5_isFull 71 = .ok (.iconst 0, 1) := by decide +kernel
theorem dX5_isFull_72 : decode cX5_isFull 72 = .ok (.ireturn, 1) := by decide +kernel
theorem dX5_isFull_73 : decode cX5_isFull 73 = .ok (.aload_n 0, 1) := by decide +kernel
theorem dX5_isFull_74 : decode cX5_isFull 74 = .ok (.getfield 21, 3) := by decide +kernel
theorem dX5_isFull_77 : decode cX5_isFull 77 = .ok (.getfield 116, 3) := by decide +kernel
theorem dX5_isFull_80 : decode cX5_isFull 80 = .ok (.getfield 120, 3) := by decide +kernel
theorem dX5_isFull_83 : decode cX5_isFull 83 = .ok (.bipush 10, 2) := by decide +kernel
theorem dX5_isFull_85 : decode cX5_isFull 85 = .ok (.if_icmp .lt 7, 3) := by decide +kernel
theorem dX5_isFull_88 : decode cX5_isFull 88 = .ok (.iconst 1, 1) := by decide +kernel
theorem dX5_isFull_89 : decode cX5_isFull 89 = .ok (.goto 4, 3) := by decide +kernel
theorem dX5_isFull_92 : decode cX5_isFull 92 = .ok (.iconst 0, 1) := by decide +kernel
theorem dX5_isFull_93 : decode cX5_isFull 93 = .ok (.ireturn, 1) := by decide +kernel
theorem dX5_isFull_94 : decode cX5_isFull 94 = .ok (.aload_n 0, 1) := by decide +kernel
theorem dX5_isFull_95 : decode cX5_isFull 95 = .ok (.getfield 21, 3) := by decide +kernel
theorem dX5_isFull_98 : decode cX5_isFull 98 = .ok (.getfield 125, 3) := by decide +kernel
theorem dX5_isFull_101 : decode cX5_isFull 101 = .ok (.iconst 4, 1) := by decide +kernel
theorem dX5_isFull_102 : decode cX5_isFull 102 = .ok (.if_icmp .lt 7, 3) := by decide +kernel
theorem dX5_isFull_105 : decode cX5_isFull 105 = .ok (.iconst 1, 1) := by decide +kernel
theorem dX5_isFull_106 : decode cX5_isFull 106 = .ok (.goto 4, 3) := by decide +kernel
theorem dX5_isFull_109 : decode cX5_isFull 109 = .ok (.iconst 0, 1) := by decide +kernel
theorem dX5_isFull_110 : decode cX5_isFull 110 = .ok (.ireturn, 1) := by decide +kernel
theorem dX5_isFull_111 : decode cX5_isFull 111 = .ok (.aload_n 0, 1) := by decide +kernel
theorem dX5_isFull_112 : decode cX5_isFull 112 = .ok (.getfield 21, 3) := by decide +kernel
theorem dX5_isFull_115 : decode cX5_isFull 115 = .ok (.getfield 128, 3) := by decide +kernel
theorem dX5_isFull_118 : decode cX5_isFull 118 = .ok (.bipush 6, 2) := by decide +kernel
theorem dX5_isFull_120 : decode cX5_isFull 120 = .ok (.if_icmp .lt 7, 3) := by decide +kernel
theorem dX5_isFull_123 : decode cX5_isFull 123 = .ok (.iconst 1, 1) := by decide +kernel
theorem dX5_isFull_124 : decode cX5_isFull 124 = .ok (.goto 4, 3) := by decide +kernel
theorem dX5_isFull_127 : decode cX5_isFull 127 = .ok (.iconst 0, 1) := by decide +kernel
theorem dX5_isFull_128 : decode cX5_isFull 128 = .ok (.ireturn, 1) := by decide +kernel
theorem dX5_isFull_129 : decode cX5_isFull 129 = .ok (.iconst 0, 1) := by decide +kernel
theorem dX5_isFull_130 : decode cX5_isFull 130 = .ok (.ireturn, 1) := by decide +kernel
theorem dX5_tableLine_0 : decode cX5_tableLine 0 = .ok (.aload_n 0, 1) := by decide +kernel
theorem dX5_tableLine_1 : decode cX5_tableLine 1 = .ok (.ldc2_w 131, 3) := by decide +kernel
theorem dX5_tableLine_4 : decode cX5_tableLine 4 = .ok (.iconst 2, 1) := by decide +kernel
theorem dX5_tableLine_5 : decode cX5_tableLine 5 = .ok (.bipush 10, 2) := by decide +kernel
theorem dX5_tableLine_7 : decode cX5_tableLine 7 = .ok (.invokevirtual 133, 3) := by decide +kernel
theorem dX5_tableLine_10 : decode cX5_tableLine 10 = .ok (.istore_n 1, 1) := by decide +kernel
theorem dX5_tableLine_11 : decode cX5_tableLine 11 = .ok (.iload_n 1, 1) := by decide +kernel
theorem dX5_tableLine_12 : decode cX5_tableLine 12 = .ok (.ifCond .ge 7, 3) := by decide +kernel
theorem dX5_tableLine_15 : decode cX5_tableLine 15 = .ok (.iconst (-1), 1) := by decide +kernel
theorem dX5_tableLine_16 : decode cX5_tableLine 16 = .ok (.goto 12, 3) := by decide +kernel
theorem dX5_tableLine_19 : decode cX5_tableLine 19 = .ok (.aload_n 0, 1) := by decide +kernel
theorem dX5_tableLine_20 : decode cX5_tableLine 20 = .ok (.ldc2_w 137, 3) := by decide +kernel
theorem dX5_tableLine_23 : decode cX5_tableLine 23 = .ok (.iconst 0, 1) := by decide +kernel
theorem dX5_tableLine_24 : decode cX5_tableLine 24 = .ok (.iconst 3, 1) := by decide +kernel
theorem dX5_tableLine_25 : decode cX5_tableLine 25 = .ok (.invokevirtual 133, 3) := by decide +kernel
theorem dX5_tableLine_28 : decode cX5_tableLine 28 = .ok (.istore_n 2, 1) := by decide +kernel
theorem dX5_tableLine_29 : decode cX5_tableLine 29 = .ok (.iload_n 2, 1) := by decide +kernel
theorem dX5_tableLine_30 : decode cX5_tableLine 30 = .ok (.ifCond .ge 7, 3) := by decide +kernel
theorem dX5_tableLine_33 : decode cX5_tableLine 33 = .ok (.iconst (-1), 1) := by decide +kernel
theorem dX5_tableLine_34 : decode cX5_tableLine 34 = .ok (.goto 13, 3) := by decide +kernel
theorem dX5_tableLine_37 : decode cX5_tableLine 37 = .ok (.aload_n 0, 1) := by decide +kernel
theorem dX5_tableLine_38 : decode cX5_tableLine 38 = .ok (.ldc2_w 139, 3) := by decide +kernel
theorem dX5_tableLine_41 : decode cX5_tableLine 41 = .ok (.iconst 1, 1) := by decide +kernel
theorem dX5_tableLine_42 : decode cX5_tableLine 42 = .ok (.bipush 9, 2) := by decide +kernel
theorem dX5_tableLine_44 : decode cX5_tableLine 44 = .ok (.invokevirtual 133, 3) := by decide +kernel
theorem dX5_tableLine_47 : decode cX5_tableLine 47 = .ok (.istore_n 3, 1) := by decide +kernel
theorem dX5_tableLine_48 : decode cX5_tableLine 48 = .ok (.iload_n 3, 1) := by decide +kernel
theorem dX5_tableLine_49 : decode cX5_tableLine 49 = .ok (.ifCond .ge 7, 3) := by decide +kernel
theorem dX5_tableLine_52 : decode cX5_tableLine 52 = .ok (.iconst (-1), 1) := by decide +kernel
theorem dX5_tableLine_53 : decode cX5_tableLine 53 = .ok (.goto 13, 3) := by decide +kernel
theorem dX5_tableLine_56 : decode cX5_tableLine 56 = .ok (.aload_n 0, 1) := by decide +kernel
theorem dX5_tableLine_57 : decode cX5_tableLine 57 = .ok (.ldc2_w 141, 3) := by decide +kernel
theorem dX5_tableLine_60 : decode cX5_tableLine 60 = .ok (.iconst 0, 1) := by decide +kernel
theorem dX5_tableLine_61 : decode cX5_tableLine 61 = .ok (.bipush 100, 2) := by decide +kernel
theorem dX5_tableLine_63 : decode cX5_tableLine 63 = .ok (.invokevirtual 133, 3) := by decide +kernel
theorem dX5_tableLine_66 : decode cX5_tableLine 66 = .ok (.istore 4, 2) := by decide +kernel
theorem dX5_tableLine_68 : decode cX5_tableLine 68 = .ok (.iload 4, 2) := by decide +kernel
theorem dX5_tableLine_70 : decode cX5_tableLine 70 = .ok (.ifCond .ge 5, 3) := by decide +kernel
theorem dX5_tableLine_73 : decode cX5_tableLine 73 = .ok (.iconst 0, 1) := by decide +kernel
theorem dX5_tableLine_74 : decode cX5_tableLine 74 = .ok (.ireturn, 1) := by decide +kernel
theorem dX5_tableLine_75 : decode cX5_tableLine 75 = .ok (.aload_n 0, 1) := by decide +kernel
theorem dX5_tableLine_76 : decode cX5_tableLine 76 = .ok (.getfield 21, 3) := by decide +kernel
theorem dX5_tableLine_79 : decode cX5_tableLine 79 = .ok (.iload_n 1, 1) := by decide +kernel
theorem dX5_tableLine_80 : decode cX5_tableLine 80 = .ok (.putfield 83, 3) := by decide +kernel
theorem dX5_tableLine_83 : decode cX5_tableLine 83 = .ok (.aload_n 0, 1) := by decide +kernel
theorem dX5_tableLine_84 : decode cX5_tableLine 84 = .ok (.getfield 21, 3) := by decide +kernel
theorem dX5_tableLine_87 : decode cX5_tableLine 87 = .ok (.iload_n 2, 1) := by decide +kernel
theorem dX5_tableLine_88 : decode cX5_tableLine 88 = .ok (.putfield 143, 3) := by decide +kernel
theorem dX5_tableLine_91 : decode cX5_tableLine 91 = .ok (.aload_n 0, 1) := by decide +kernel
theorem dX5_tableLine_92 : decode cX5_tableLine 92 = .ok (.getfield 21, 3) := by decide +kernel
theorem dX5_tableLine_95 : decode cX5_tableLine 95 = .ok (.iload_n 3, 1) := by decide +kernel
theorem dX5_tableLine_96 : decode cX5_tableLine 96 = .ok (.putfield 146, 3) := by decide +kernel
theorem dX5_tableLine_99 : decode cX5_tableLine 99 = .ok (.aload_n 0, 1) := by decide +kernel
theorem dX5_tableLine_100 : decode cX5_tableLine 100 = .ok (.getfield 21, 3) := by decide +kernel
theorem dX5_tableLine_103 : decode cX5_tableLine 103 = .ok (.iload 4, 2) := by decide +kernel
theorem dX5_tableLine_105 : decode cX5_tableLine 105 = .ok (.putfield 149, 3) := by decide +kernel
theorem dX5_tableLine_108 : decode cX5_tableLine 108 = .ok (.iconst 1, 1) := by decide +kernel
theorem dX5_tableLine_109 : decode cX5_tableLine 109 = .ok (.ireturn, 1) := by decide +kernel
theorem dX5_personLine_0 : decode cX5_personLine 0 = .ok (.aload_n 0, 1) := by decide +kernel
theorem dX5_personLine_1 : decode cX5_personLine 1 = .ok (.invokevirtual 79, 3) := by decide +kernel
theorem dX5_personLine_4 : decode cX5_personLine 4 = .ok (.bipush 6, 2) := by decide +kernel
theorem dX5_personLine_6 : decode cX5_personLine 6 = .ok (.if_icmp .eq 9, 3) := by decide +kernel
theorem dX5_personLine_9 : decode cX5_personLine 9 = .ok (.aload_n 0, 1) := by decide +kernel
theorem dX5_personLine_10 : decode cX5_personLine 10 = .ok (.iconst 1, 1) := by decide +kernel
theorem dX5_personLine_11 : decode cX5_personLine 11 = .ok (.invokevirtual 53, 3) := by decide +kernel
theorem dX5_personLine_14 : decode cX5_personLine 14 = .ok (.ireturn, 1) := by decide +kernel
theorem dX5_personLine_15 : decode cX5_personLine 15 = .ok (.aload_n 0, 1) := by decide +kernel
theorem dX5_personLine_16 : decode cX5_personLine 16 = .ok (.aload_n 0, 1) := by decide +kernel
theorem dX5_personLine_17 : decode cX5_personLine 17 = .ok (.getfield 12, 3) := by decide +kernel
theorem dX5_personLine_20 : decode cX5_personLine 20 = .ok (.getfield 63, 3) := by decide +kernel
theorem dX5_personLine_23 : decode cX5_personLine 23 = .ok (.invokevirtual 152, 3) := by decide +kernel
theorem dX5_personLine_26 : decode cX5_personLine 26 = .ok (.ifCond .lt 9, 3) := by decide +kernel
theorem dX5_personLine_29 : decode cX5_personLine 29 = .ok (.aload_n 0, 1) := by decide +kernel
theorem dX5_personLine_30 : decode cX5_personLine 30 = .ok (.iconst 3, 1) := by decide +kernel
theorem dX5_personLine_31 : decode cX5_personLine 31 = .ok (.invokevirtual 53, 3) := by decide +kernel
theorem dX5_personLine_34 : decode cX5_personLine 34 = .ok (.ireturn, 1) := by decide +kernel
theorem dX5_personLine_35 : decode cX5_personLine 35 = .ok (.aload_n 0, 1) := by decide +kernel
theorem dX5_personLine_36 : decode cX5_personLine 36 = .ok (.getfield 25, 3) := by decide +kernel
theorem dX5_personLine_39 : decode cX5_personLine 39 = .ok (.aload_n 0, 1) := by decide +kernel
theorem dX5_personLine_40 : decode cX5_personLine 40 = .ok (.getfield 21, 3) := by decide +kernel
theorem dX5_personLine_43 : decode cX5_personLine 43 = .ok (.getfield 50, 3) := by decide +kernel
theorem dX5_personLine_46 : decode cX5_personLine 46 = .ok (.aload_n 0, 1) := by decide +kernel
theorem dX5_personLine_47 : decode cX5_personLine 47 = .ok (.getfield 12, 3) := by decide +kernel
theorem dX5_personLine_50 : decode cX5_personLine 50 = .ok (.getfield 63, 3) := by decide +kernel
theorem dX5_personLine_53 : decode cX5_personLine 53 = .ok (.lastore, 1) := by decide +kernel
theorem dX5_personLine_54 : decode cX5_personLine 54 = .ok (.aload_n 0, 1) := by decide +kernel
theorem dX5_personLine_55 : decode cX5_personLine 55 = .ok (.getfield 12, 3) := by decide +kernel
theorem dX5_personLine_58 : decode cX5_personLine 58 = .ok (.invokevirtual 57, 3) := by decide +kernel
theorem dX5_personLine_61 : decode cX5_personLine 61 = .ok (.aload_n 0, 1) := by decide +kernel
theorem dX5_personLine_62 : decode cX5_personLine 62 = .ok (.ldc2_w 156, 3) := by decide +kernel
theorem dX5_personLine_65 : decode cX5_personLine 65 = .ok (.invokevirtual 158, 3) := by decide +kernel
theorem dX5_personLine_68 : decode cX5_personLine 68 = .ok (.ifCond .ne 5, 3) := by decide +kernel
theorem dX5_personLine_71 : decode cX5_personLine 71 = .ok (.iconst 0, 1) := by decide +kernel
theorem dX5_personLine_72 : decode cX5_personLine 72 = .ok (.ireturn, 1) := by decide +kernel
theorem dX5_personLine_73 : decode cX5_personLine 73 = .ok (.aload_n 0, 1) := by decide +kernel
theorem dX5_personLine_74 : decode cX5_personLine 74 = .ok (.getfield 12, 3) := by decide +kernel
theorem dX5_personLine_77 : decode cX5_personLine 77 = .ok (.invokevirtual 57, 3) := by decide +kernel
theorem dX5_personLine_80 : decode cX5_personLine 80 = .ok (.aload_n 0, 1) := by decide +kernel
theorem dX5_personLine_81 : decode cX5_personLine 81 = .ok (.iconst 0, 1) := by decide +kernel
theorem dX5_personLine_82 : decode cX5_personLine 82 = .ok (.aload_n 0, 1) := by decide +kernel
theorem dX5_personLine_83 : decode cX5_personLine 83 = .ok (.getfield 21, 3) := by decide +kernel
theorem dX5_personLine_86 : decode cX5_personLine 86 = .ok (.getfield 83, 3) := by decide +kernel
theorem dX5_personLine_89 : decode cX5_personLine 89 = .ok (.iconst 1, 1) := by decide +kernel
theorem dX5_personLine_90 : decode cX5_personLine 90 = .ok (.isub, 1) := by decide +kernel
theorem dX5_personLine_91 : decode cX5_personLine 91 = .ok (.invokevirtual 162, 3) := by decide +kernel
theorem dX5_personLine_94 : decode cX5_personLine 94 = .ok (.ifCond .ne 5, 3) := by decide +kernel
theorem dX5_personLine_97 : decode cX5_personLine 97 = .ok (.iconst 0, 1) := by decide +kernel
theorem dX5_personLine_98 : decode cX5_personLine 98 = .ok (.ireturn, 1) := by decide +kernel
theorem dX5_personLine_99 : decode cX5_personLine 99 = .ok (.aload_n 0, 1) := by decide +kernel
theorem dX5_personLine_100 : decode cX5_personLine 100 = .ok (.aload_n 0, 1) := by decide +kernel
theorem dX5_personLine_101 : decode cX5_personLine 101 = .ok (.getfield 12, 3) := by decide +kernel
theorem dX5_personLine_104 : decode cX5_personLine 104 = .ok (.getfield 166, 3) := by decide +kernel
theorem dX5_personLine_107 : decode cX5_personLine 107 = .ok (.invokevirtual 169, 3) := by decide +kernel
theorem dX5_personLine_110 : decode cX5_personLine 110 = .ok (.ifCond .eq 9, 3) := by decide +kernel
theorem dX5_personLine_113 : decode cX5_personLine 113 = .ok (.aload_n 0, 1) := by decide +kernel
theorem dX5_personLine_114 : decode cX5_personLine 114 = .ok (.iconst 3, 1) := by decide +kernel
theorem dX5_personLine_115 : decode cX5_personLine 115 = .ok (.invokevirtual 53, 3) := by decide +kernel
theorem dX5_personLine_118 : decode cX5_personLine 118 = .ok (.ireturn, 1) := by decide +kernel
theorem dX5_personLine_119 : decode cX5_personLine 119 = .ok (.aload_n 0, 1) := by decide +kernel
theorem dX5_personLine_120 : decode cX5_personLine 120 = .ok (.getfield 21, 3) := by decide +kernel
theorem dX5_personLine_123 : decode cX5_personLine 123 = .ok (.getfield 116, 3) := by decide +kernel
theorem dX5_personLine_126 : decode cX5_personLine 126 = .ok (.getfield 172, 3) := by decide +kernel
theorem dX5_personLine_129 : decode cX5_personLine 129 = .ok (.aload_n 0, 1) := by decide +kernel
theorem dX5_personLine_130 : decode cX5_personLine 130 = .ok (.getfield 21, 3) := by decide +kernel
theorem dX5_personLine_133 : decode cX5_personLine 133 = .ok (.getfield 50, 3) := by decide +kernel
theorem dX5_personLine_136 : decode cX5_personLine 136 = .ok (.aload_n 0, 1) := by decide +kernel
theorem dX5_personLine_137 : decode cX5_personLine 137 = .ok (.getfield 12, 3) := by decide +kernel
theorem dX5_personLine_140 : decode cX5_personLine 140 = .ok (.getfield 166, 3) := by decide +kernel
theorem dX5_personLine_143 : decode cX5_personLine 143 = .ok (.iastore, 1) := by decide +kernel
theorem dX5_personLine_144 : decode cX5_personLine 144 = .ok (.aload_n 0, 1) := by decide +kernel
theorem dX5_personLine_145 : decode cX5_personLine 145 = .ok (.getfield 21, 3) := by decide +kernel
theorem dX5_personLine_148 : decode cX5_personLine 148 = .ok (.dup, 1) := by decide +kernel
theorem dX5_personLine_149 : decode cX5_personLine 149 = .ok (.getfield 50, 3) := by decide +kernel
theorem dX5_personLine_152 : decode cX5_personLine 152 = .ok (.iconst 1, 1) := by decide +kernel
theorem dX5_personLine_153 : decode cX5_personLine 153 = .ok (.iadd, 1) := by decide +kernel
theorem dX5_personLine_154 : decode cX5_personLine 154 = .ok (.putfield 50, 3) := by decide +kernel
theorem dX5_personLine_157 : decode cX5_personLine 157 = .ok (.aload_n 0, 1) := by decide +kernel
theorem dX5_personLine_158 : decode cX5_personLine 158 = .ok (.getfield 12, 3) := by decide +kernel
theorem dX5_personLine_161 : decode cX5_personLine 161 = .ok (.invokevirtual 57, 3) := by decide +kernel
theorem dX5_personLine_164 : decode cX5_personLine 164 = .ok (.iconst 1, 1) := by decide +kernel
theorem dX5_personLine_165 : decode cX5_personLine 165 = .ok (.ireturn, 1) := by decide +kernel
theorem dX5_forkLine_0 : decode cX5_forkLine 0 = .ok (.aload_n 0, 1) := by decide +kernel
theorem dX5_forkLine_1 : decode cX5_forkLine 1 = .ok (.iconst 0, 1) := by decide +kernel
theorem dX5_forkLine_2 : decode cX5_forkLine 2 = .ok (.aload_n 0, 1) := by decide +kernel
theorem dX5_forkLine_3 : decode cX5_forkLine 3 = .ok (.getfield 21, 3) := by decide +kernel
theorem dX5_forkLine_6 : decode cX5_forkLine 6 = .ok (.getfield 83, 3) := by decide +kernel
theorem dX5_forkLine_9 : decode cX5_forkLine 9 = .ok (.iconst 1, 1) := by decide +kernel
theorem dX5_forkLine_10 : decode cX5_forkLine 10 = .ok (.isub, 1) := by decide +kernel
theorem dX5_forkLine_11 : decode cX5_forkLine 11 = .ok (.invokevirtual 162, 3) := by decide +kernel
theorem dX5_forkLine_14 : decode cX5_forkLine 14 = .ok (.ifCond .ne 5, 3) := by decide +kernel
theorem dX5_forkLine_17 : decode cX5_forkLine 17 = .ok (.iconst 0, 1) := by decide +kernel
theorem dX5_forkLine_18 : decode cX5_forkLine 18 = .ok (.ireturn, 1) := by decide +kernel
theorem dX5_forkLine_19 : decode cX5_forkLine 19 = .ok (.aload_n 0, 1) := by decide +kernel
theorem dX5_forkLine_20 : decode cX5_forkLine 20 = .ok (.getfield 21, 3) := by decide +kernel
theorem dX5_forkLine_23 : decode cX5_forkLine 23 = .ok (.getfield 107, 3) := by decide +kernel
theorem dX5_forkLine_26 : decode cX5_forkLine 26 = .ok (.aload_n 0, 1) := by decide +kernel
theorem dX5_forkLine_27 : decode cX5_forkLine 27 = .ok (.getfield 12, 3) := by decide +kernel
theorem dX5_forkLine_30 : decode cX5_forkLine 30 = .ok (.getfield 166, 3) := by decide +kernel
theorem dX5_forkLine_33 : decode cX5_forkLine 33 = .ok (.invokestatic 176, 3) := by decide +kernel
theorem dX5_forkLine_36 : decode cX5_forkLine 36 = .ok (.ifCond .eq 9, 3) := by decide +kernel
theorem dX5_forkLine_39 : decode cX5_forkLine 39 = .ok (.aload_n 0, 1) := by decide +kernel
theorem dX5_forkLine_40 : decode cX5_forkLine 40 = .ok (.iconst 3, 1) := by decide +kernel
theorem dX5_forkLine_41 : decode cX5_forkLine 41 = .ok (.invokevirtual 53, 3) := by decide +kernel
theorem dX5_forkLine_44 : decode cX5_forkLine 44 = .ok (.ireturn, 1) := by decide +kernel
theorem dX5_forkLine_45 : decode cX5_forkLine 45 = .ok (.aload_n 0, 1) := by decide +kernel
theorem dX5_forkLine_46 : decode cX5_forkLine 46 = .ok (.getfield 21, 3) := by decide +kernel
theorem dX5_forkLine_49 : decode cX5_forkLine 49 = .ok (.dup, 1) := by decide +kernel
theorem dX5_forkLine_50 : decode cX5_forkLine 50 = .ok (.getfield 107, 3) := by decide +kernel
theorem dX5_forkLine_53 : decode cX5_forkLine 53 = .ok (.iconst 1, 1) := by decide +kernel
theorem dX5_forkLine_54 : decode cX5_forkLine 54 = .ok (.aload_n 0, 1) := by decide +kernel
theorem dX5_forkLine_55 : decode cX5_forkLine 55 = .ok (.getfield 12, 3) := by decide +kernel
theorem dX5_forkLine_58 : decode cX5_forkLine 58 = .ok (.getfield 166, 3) := by decide +kernel
theorem dX5_forkLine_61 : decode cX5_forkLine 61 = .ok (.ishl, 1) := by decide +kernel
theorem dX5_forkLine_62 : decode cX5_forkLine 62 = .ok (.ior, 1) := by decide +kernel
theorem dX5_forkLine_63 : decode cX5_forkLine 63 = .ok (.putfield 107, 3) := by decide +kernel
theorem dX5_forkLine_66 : decode cX5_forkLine 66 = .ok (.aload_n 0, 1) := by decide +kernel
theorem dX5_forkLine_67 : decode cX5_forkLine 67 = .ok (.getfield 12, 3) := by decide +kernel
theorem dX5_forkLine_70 : decode cX5_forkLine 70 = .ok (.invokevirtual 57, 3) := by decide +kernel
theorem dX5_forkLine_73 : decode cX5_forkLine 73 = .ok (.iconst 1, 1) := by decide +kernel
theorem dX5_forkLine_74 : decode cX5_forkLine 74 = .ok (.ireturn, 1) := by decide +kernel
theorem dX5_knownLine_0 : decode cX5_knownLine 0 = .ok (.aload_n 0, 1) := by decide +kernel
theorem dX5_knownLine_1 : decode cX5_knownLine 1 = .ok (.invokevirtual 179, 3) := by decide +kernel
theorem dX5_knownLine_4 : decode cX5_knownLine 4 = .ok (.istore_n 1, 1) := by decide +kernel
theorem dX5_knownLine_5 : decode cX5_knownLine 5 = .ok (.iload_n 1, 1) := by decide +kernel
theorem dX5_knownLine_6 : decode cX5_knownLine 6 = .ok (.ifCond .ge 5, 3) := by decide +kernel
theorem dX5_knownLine_9 : decode cX5_knownLine 9 = .ok (.iconst 0, 1) := by decide +kernel
theorem dX5_knownLine_10 : decode cX5_knownLine 10 = .ok (.ireturn, 1) := by decide +kernel
theorem dX5_knownLine_11 : decode cX5_knownLine 11 = .ok (.aload_n 0, 1) := by decide +kernel
theorem dX5_knownLine_12 : decode cX5_knownLine 12 = .ok (.getfield 12, 3) := by decide +kernel
theorem dX5_knownLine_15 : decode cX5_knownLine 15 = .ok (.invokevirtual 57, 3) := by decide +kernel
theorem dX5_knownLine_18 : decode cX5_knownLine 18 = .ok (.aload_n 0, 1) := by decide +kernel
theorem dX5_knownLine_19 : decode cX5_knownLine 19 = .ok (.invokevirtual 179, 3) := by decide +kernel
theorem dX5_knownLine_22 : decode cX5_knownLine 22 = .ok (.istore_n 2, 1) := by decide +kernel
theorem dX5_knownLine_23 : decode cX5_knownLine 23 = .ok (.iload_n 2, 1) := by decide +kernel
theorem dX5_knownLine_24 : decode cX5_knownLine 24 = .ok (.ifCond .ge 5, 3) := by decide +kernel
theorem dX5_knownLine_27 : decode cX5_knownLine 27 = .ok (.iconst 0, 1) := by decide +kernel
theorem dX5_knownLine_28 : decode cX5_knownLine 28 = .ok (.ireturn, 1) := by decide +kernel
theorem dX5_knownLine_29 : decode cX5_knownLine 29 = .ok (.iload_n 1, 1) := by decide +kernel
theorem dX5_knownLine_30 : decode cX5_knownLine 30 = .ok (.iload_n 2, 1) := by decide +kernel
theorem dX5_knownLine_31 : decode cX5_knownLine 31 = .ok (.if_icmp .eq 18, 3) := by decide +kernel
theorem dX5_knownLine_34 : decode cX5_knownLine 34 = .ok (.aload_n 0, 1) := by decide +kernel
theorem dX5_knownLine_35 : decode cX5_knownLine 35 = .ok (.getfield 21, 3) := by decide +kernel
theorem dX5_knownLine_38 : decode cX5_knownLine 38 = .ok (.getfield 116, 3) := by decide +kernel
theorem dX5_knownLine_41 : decode cX5_knownLine 41 = .ok (.iload_n 1, 1) := by decide +kernel
theorem dX5_knownLine_42 : decode cX5_knownLine 42 = .ok (.iload_n 2, 1) := by decide +kernel
theorem dX5_knownLine_43 : decode cX5_knownLine 43 = .ok (.invokevirtual 182, 3) := by decide +kernel
theorem dX5_knownLine_46 : decode cX5_knownLine 46 = .ok (.ifCond .lt 9, 3) := by decide +kernel
theorem dX5_knownLine_49 : decode cX5_knownLine 49 = .ok (.aload_n 0, 1) := by decide +kernel
theorem dX5_knownLine_50 : decode cX5_knownLine 50 = .ok (.iconst 3, 1) := by decide +kernel
theorem dX5_knownLine_51 : decode cX5_knownLine 51 = .ok (.invokevirtual 53, 3) := by decide +kernel
theorem dX5_knownLine_54 : decode cX5_knownLine 54 = .ok (.ireturn, 1) := by decide +kernel
theorem dX5_knownLine_55 : decode cX5_knownLine 55 = .ok (.aload_n 0, 1) := by decide +kernel
theorem dX5_knownLine_56 : decode cX5_knownLine 56 = .ok (.getfield 12, 3) := by decide +kernel
theorem dX5_knownLine_59 : decode cX5_knownLine 59 = .ok (.invokevirtual 57, 3) := by decide +kernel
theorem dX5_knownLine_62 : decode cX5_knownLine 62 = .ok (.aload_n 0, 1) := by decide +kernel
theorem dX5_knownLine_63 : decode cX5_knownLine 63 = .ok (.ldc2_w 186, 3) := by decide +kernel
theorem dX5_knownLine_66 : decode cX5_knownLine 66 = .ok (.iconst 0, 1) := by decide +kernel
theorem dX5_knownLine_67 : decode cX5_knownLine 67 = .ok (.bipush 99, 2) := by decide +kernel
theorem dX5_knownLine_69 : decode cX5_knownLine 69 = .ok (.invokevirtual 133, 3) := by decide +kernel
theorem dX5_knownLine_72 : decode cX5_knownLine 72 = .ok (.istore_n 3, 1) := by decide +kernel
theorem dX5_knownLine_73 : decode cX5_knownLine 73 = .ok (.iload_n 3, 1) := by decide +kernel
theorem dX5_knownLine_74 : decode cX5_knownLine 74 = .ok (.ifCond .ge 5, 3) := by decide +kernel
theorem dX5_knownLine_77 : decode cX5_knownLine 77 = .ok (.iconst 0, 1) := by decide +kernel
theorem dX5_knownLine_78 : decode cX5_knownLine 78 = .ok (.ireturn, 1) := by decide +kernel
theorem dX5_knownLine_79 : decode cX5_knownLine 79 = .ok (.aload_n 0, 1) := by decide +kernel
theorem dX5_knownLine_80 : decode cX5_knownLine 80 = .ok (.invokevirtual 188, 3) := by decide +kernel
theorem dX5_knownLine_83 : decode cX5_knownLine 83 = .ok (.istore 4, 2) := by decide +kernel
theorem dX5_knownLine_85 : decode cX5_knownLine 85 = .ok (.iload 4, 2) := by decide +kernel
theorem dX5_knownLine_87 : decode cX5_knownLine 87 = .ok (.ifCond .ge 9, 3) := by decide +kernel
theorem dX5_knownLine_90 : decode cX5_knownLine 90 = .ok (.aload_n 0, 1) := by decide +kernel
theorem dX5_knownLine_91 : decode cX5_knownLine 91 = .ok (.iconst 1, 1) := by decide +kernel
theorem dX5_knownLine_92 : decode cX5_knownLine 92 = .ok (.invokevirtual 53, 3) := by decide +kernel
theorem dX5_knownLine_95 : decode cX5_knownLine 95 = .ok (.ireturn, 1) := by decide +kernel
theorem dX5_knownLine_96 : decode cX5_knownLine 96 = .ok (.aload_n 0, 1) := by decide +kernel
theorem dX5_knownLine_97 : decode cX5_knownLine 97 = .ok (.getfield 21, 3) := by decide +kernel
theorem dX5_knownLine_100 : decode cX5_knownLine 100 = .ok (.getfield 116, 3) := by decide +kernel
theorem dX5_knownLine_103 : decode cX5_knownLine 103 = .ok (.iload_n 1, 1) := by decide +kernel
theorem dX5_knownLine_104 : decode cX5_knownLine 104 = .ok (.iload_n 2, 1) := by decide +kernel
theorem dX5_knownLine_105 : decode cX5_knownLine 105 = .ok (.iload_n 3, 1) := by decide +kernel
theorem dX5_knownLine_106 : decode cX5_knownLine 106 = .ok (.iload 4, 2) := by decide +kernel
theorem dX5_knownLine_108 : decode cX5_knownLine 108 = .ok (.invokevirtual 191, 3) := by decide +kernel
theorem dX5_knownLine_111 : decode cX5_knownLine 111 = .ok (.aload_n 0, 1) := by decide +kernel
theorem dX5_knownLine_112 : decode cX5_knownLine 112 = .ok (.getfield 12, 3) := by decide +kernel
theorem dX5_knownLine_115 : decode cX5_knownLine 115 = .ok (.invokevirtual 57, 3) := by decide +kernel
theorem dX5_knownLine_118 : decode cX5_knownLine 118 = .ok (.iconst 1, 1) := by decide +kernel
theorem dX5_knownLine_119 : decode cX5_knownLine 119 = .ok (.ireturn, 1) := by decide +kernel
theorem dX5_unsureLine_0 : decode cX5_unsureLine 0 = .ok (.aload_n 0, 1) := by decide +kernel
theorem dX5_unsureLine_1 : decode cX5_unsureLine 1 = .ok (.aload_n 0, 1) := by decide +kernel
theorem dX5_unsureLine_2 : decode cX5_unsureLine 2 = .ok (.getfield 21, 3) := by decide +kernel
theorem dX5_unsureLine_5 : decode cX5_unsureLine 5 = .ok (.getfield 195, 3) := by decide +kernel
theorem dX5_unsureLine_8 : decode cX5_unsureLine 8 = .ok (.aload_n 0, 1) := by decide +kernel
theorem dX5_unsureLine_9 : decode cX5_unsureLine 9 = .ok (.getfield 21, 3) := by decide +kernel
theorem dX5_unsureLine_12 : decode cX5_unsureLine 12 = .ok (.getfield 125, 3) := by decide +kernel
theorem dX5_unsureLine_15 : decode cX5_unsureLine 15 = .ok (.invokevirtual 198, 3) := by decide +kernel
theorem dX5_unsureLine_18 : decode cX5_unsureLine 18 = .ok (.istore_n 1, 1) := by decide +kernel
theorem dX5_unsureLine_19 : decode cX5_unsureLine 19 = .ok (.iload_n 1, 1) := by decide +kernel
theorem dX5_unsureLine_20 : decode cX5_unsureLine 20 = .ok (.ifCond .lt 13, 3) := by decide +kernel
theorem dX5_unsureLine_23 : decode cX5_unsureLine 23 = .ok (.aload_n 0, 1) := by decide +kernel
theorem dX5_unsureLine_24 : decode cX5_unsureLine 24 = .ok (.iconst 0, 1) := by decide +kernel
theorem dX5_unsureLine_25 : decode cX5_unsureLine 25 = .ok (.bipush 99, 2) := by decide +kernel
theorem dX5_unsureLine_27 : decode cX5_unsureLine 27 = .ok (.invokevirtual 162, 3) := by decide +kernel
theorem dX5_unsureLine_30 : decode cX5_unsureLine 30 = .ok (.ifCond .ne 5, 3) := by decide +kernel
theorem dX5_unsureLine_33 : decode cX5_unsureLine 33 = .ok (.iconst 0, 1) := by decide +kernel
theorem dX5_unsureLine_34 : decode cX5_unsureLine 34 = .ok (.ireturn, 1) := by decide +kernel
theorem dX5_unsureLine_35 : decode cX5_unsureLine 35 = .ok (.aload_n 0, 1) := by decide +kernel
theorem dX5_unsureLine_36 : decode cX5_unsureLine 36 = .ok (.getfield 21, 3) := by decide +kernel
theorem dX5_unsureLine_39 : decode cX5_unsureLine 39 = .ok (.getfield 195, 3) := by decide +kernel
theorem dX5_unsureLine_42 : decode cX5_unsureLine 42 = .ok (.aload_n 0, 1) := by decide +kernel
theorem dX5_unsureLine_43 : decode cX5_unsureLine 43 = .ok (.getfield 21, 3) := by decide +kernel
theorem dX5_unsureLine_46 : decode cX5_unsureLine 46 = .ok (.getfield 125, 3) := by decide +kernel
theorem dX5_unsureLine_49 : decode cX5_unsureLine 49 = .ok (.iload_n 1, 1) := by decide +kernel
theorem dX5_unsureLine_50 : decode cX5_unsureLine 50 = .ok (.iastore, 1) := by decide +kernel
theorem dX5_unsureLine_51 : decode cX5_unsureLine 51 = .ok (.aload_n 0, 1) := by decide +kernel
theorem dX5_unsureLine_52 : decode cX5_unsureLine 52 = .ok (.getfield 21, 3) := by decide +kernel
theorem dX5_unsureLine_55 : decode cX5_unsureLine 55 = .ok (.getfield 202, 3) := by decide +kernel
theorem dX5_unsureLine_58 : decode cX5_unsureLine 58 = .ok (.aload_n 0, 1) := by decide +kernel
theorem dX5_unsureLine_59 : decode cX5_unsureLine 59 = .ok (.getfield 21, 3) := by decide +kernel
theorem dX5_unsureLine_62 : decode cX5_unsureLine 62 = .ok (.getfield 125, 3) := by decide +kernel
theorem dX5_unsureLine_65 : decode cX5_unsureLine 65 = .ok (.aload_n 0, 1) := by decide +kernel
theorem dX5_unsureLine_66 : decode cX5_unsureLine 66 = .ok (.getfield 12, 3) := by decide +kernel
theorem dX5_unsureLine_69 : decode cX5_unsureLine 69 = .ok (.getfield 166, 3) := by decide +kernel
theorem dX5_unsureLine_72 : decode cX5_unsureLine 72 = .ok (.iastore, 1) := by decide +kernel
theorem dX5_unsureLine_73 : decode cX5_unsureLine 73 = .ok (.aload_n 0, 1) := by decide +kernel
theorem dX5_unsureLine_74 : decode cX5_unsureLine 74 = .ok (.getfield 21, 3) := by decide +kernel
theorem dX5_unsureLine_77 : decode cX5_unsureLine 77 = .ok (.dup, 1) := by decide +kernel
theorem dX5_unsureLine_78 : decode cX5_unsureLine 78 = .ok (.getfield 125, 3) := by decide +kernel
theorem dX5_unsureLine_81 : decode cX5_unsureLine 81 = .ok (.iconst 1, 1) := by decide +kernel
theorem dX5_unsureLine_82 : decode cX5_unsureLine 82 = .ok (.iadd, 1) := by decide +kernel
theorem dX5_unsureLine_83 : decode cX5_unsureLine 83 = .ok (.putfield 125, 3) := by decide +kernel
theorem dX5_unsureLine_86 : decode cX5_unsureLine 86 = .ok (.aload_n 0, 1) := by decide +kernel
theorem dX5_unsureLine_87 : decode cX5_unsureLine 87 = .ok (.getfield 12, 3) := by decide +kernel
theorem dX5_unsureLine_90 : decode cX5_unsureLine 90 = .ok (.invokevirtual 57, 3) := by decide +kernel
theorem dX5_unsureLine_93 : decode cX5_unsureLine 93 = .ok (.iconst 1, 1) := by decide +kernel
theorem dX5_unsureLine_94 : decode cX5_unsureLine 94 = .ok (.ireturn, 1) := by decide +kernel
theorem dX5_triedLine_0 : decode cX5_triedLine 0 = .ok (.aload_n 0, 1) := by decide +kernel
theorem dX5_triedLine_1 : decode cX5_triedLine 1 = .ok (.aload_n 0, 1) := by decide +kernel
theorem dX5_triedLine_2 : decode cX5_triedLine 2 = .ok (.getfield 21, 3) := by decide +kernel
theorem dX5_triedLine_5 : decode cX5_triedLine 5 = .ok (.getfield 205, 3) := by decide +kernel
theorem dX5_triedLine_8 : decode cX5_triedLine 8 = .ok (.aload_n 0, 1) := by decide +kernel
theorem dX5_triedLine_9 : decode cX5_triedLine 9 = .ok (.getfield 21, 3) := by decide +kernel
theorem dX5_triedLine_12 : decode cX5_triedLine 12 = .ok (.getfield 128, 3) := by decide +kernel
theorem dX5_triedLine_15 : decode cX5_triedLine 15 = .ok (.invokevirtual 198, 3) := by decide +kernel
theorem dX5_triedLine_18 : decode cX5_triedLine 18 = .ok (.istore_n 1, 1) := by decide +kernel
theorem dX5_triedLine_19 : decode cX5_triedLine 19 = .ok (.iload_n 1, 1) := by decide +kernel
theorem dX5_triedLine_20 : decode cX5_triedLine 20 = .ok (.ifCond .ge 5, 3) := by decide +kernel
theorem dX5_triedLine_23 : decode cX5_triedLine 23 = .ok (.iconst 0, 1) := by decide +kernel
theorem dX5_triedLine_24 : decode cX5_triedLine 24 = .ok (.ireturn, 1) := by decide +kernel
theorem dX5_triedLine_25 : decode cX5_triedLine 25 = .ok (.aload_n 0, 1) := by decide +kernel
theorem dX5_triedLine_26 : decode cX5_triedLine 26 = .ok (.getfield 12, 3) := by decide +kernel
theorem dX5_triedLine_29 : decode cX5_triedLine 29 = .ok (.getfield 63, 3) := by decide +kernel
theorem dX5_triedLine_32 : decode cX5_triedLine 32 = .ok (.ldc2_w 208, 3) := by decide +kernel
theorem dX5_triedLine_35 : decode cX5_triedLine 35 = .ok (.lcmp, 1) := by decide +kernel
theorem dX5_triedLine_36 : decode cX5_triedLine 36 = .ok (.ifCond .eq 23, 3) := by decide +kernel
theorem dX5_triedLine_39 : decode cX5_triedLine 39 = .ok (.aload_n 0, 1) := by decide +kernel
theorem dX5_triedLine_40 : decode cX5_triedLine 40 = .ok (.getfield 12, 3) := by decide +kernel
theorem dX5_triedLine_43 : decode cX5_triedLine 43 = .ok (.getfield 63, 3) := by decide +kernel
theorem dX5_triedLine_46 : decode cX5_triedLine 46 = .ok (.ldc2_w 210, 3) := by decide +kernel
theorem dX5_triedLine_49 : decode cX5_triedLine 49 = .ok (.lcmp, 1) := by decide +kernel
theorem dX5_triedLine_50 : decode cX5_triedLine 50 = .ok (.ifCond .eq 9, 3) := by decide +kernel
theorem dX5_triedLine_53 : decode cX5_triedLine 53 = .ok (.aload_n 0, 1) := by decide +kernel
theorem dX5_triedLine_54 : decode cX5_triedLine 54 = .ok (.iconst 1, 1) := by decide +kernel
theorem dX5_triedLine_55 : decode cX5_triedLine 55 = .ok (.invokevirtual 53, 3) := by decide +kernel
theorem dX5_triedLine_58 : decode cX5_triedLine 58 = .ok (.ireturn, 1) := by decide +kernel
theorem dX5_triedLine_59 : decode cX5_triedLine 59 = .ok (.aload_n 0, 1) := by decide +kernel
theorem dX5_triedLine_60 : decode cX5_triedLine 60 = .ok (.getfield 21, 3) := by decide +kernel
theorem dX5_triedLine_63 : decode cX5_triedLine 63 = .ok (.getfield 205, 3) := by decide +kernel
theorem dX5_triedLine_66 : decode cX5_triedLine 66 = .ok (.aload_n 0, 1) := by decide +kernel
theorem dX5_triedLine_67 : decode cX5_triedLine 67 = .ok (.getfield 21, 3) := by decide +kernel
theorem dX5_triedLine_70 : decode cX5_triedLine 70 = .ok (.getfield 128, 3) := by decide +kernel
theorem dX5_triedLine_73 : decode cX5_triedLine 73 = .ok (.iload_n 1, 1) := by decide +kernel
theorem dX5_triedLine_74 : decode cX5_triedLine 74 = .ok (.iastore, 1) := by decide +kernel
theorem dX5_triedLine_75 : decode cX5_triedLine 75 = .ok (.aload_n 0, 1) := by decide +kernel
theorem dX5_triedLine_76 : decode cX5_triedLine 76 = .ok (.getfield 12, 3) := by decide +kernel
theorem dX5_triedLine_79 : decode cX5_triedLine 79 = .ok (.getfield 63, 3) := by decide +kernel
theorem dX5_triedLine_82 : decode cX5_triedLine 82 = .ok (.ldc2_w 208, 3) := by decide +kernel
theorem dX5_triedLine_85 : decode cX5_triedLine 85 = .ok (.lcmp, 1) := by decide +kernel
theorem dX5_triedLine_86 : decode cX5_triedLine 86 = .ok (.ifCond .ne 24, 3) := by decide +kernel
theorem dX5_triedLine_89 : decode cX5_triedLine 89 = .ok (.aload_n 0, 1) := by decide +kernel
theorem dX5_triedLine_90 : decode cX5_triedLine 90 = .ok (.getfield 21, 3) := by decide +kernel
theorem dX5_triedLine_93 : decode cX5_triedLine 93 = .ok (.dup, 1) := by decide +kernel
theorem dX5_triedLine_94 : decode cX5_triedLine 94 = .ok (.getfield 212, 3) := by decide +kernel
theorem dX5_triedLine_97 : decode cX5_triedLine 97 = .ok (.iconst 1, 1) := by decide +kernel
theorem dX5_triedLine_98 : decode cX5_triedLine 98 = .ok (.aload_n 0, 1) := by decide +kernel
theorem dX5_triedLine_99 : decode cX5_triedLine 99 = .ok (.getfield 21, 3) := by decide +kernel
theorem dX5_triedLine_102 : decode cX5_triedLine 102 = .ok (.getfield 128, 3) := by decide +kernel
theorem dX5_triedLine_105 : decode cX5_triedLine 105 = .ok (.ishl, 1) := by decide +kernel
theorem dX5_triedLine_106 : decode cX5_triedLine 106 = .ok (.ior, 1) := by decide +kernel
theorem dX5_triedLine_107 : decode cX5_triedLine 107 = .ok (.putfield 212, 3) := by decide +kernel
theorem dX5_triedLine_110 : decode cX5_triedLine 110 = .ok (.aload_n 0, 1) := by decide +kernel
theorem dX5_triedLine_111 : decode cX5_triedLine 111 = .ok (.getfield 21, 3) := by decide +kernel
theorem dX5_triedLine_114 : decode cX5_triedLine 114 = .ok (.dup, 1) := by decide +kernel
theorem dX5_triedLine_115 : decode cX5_triedLine 115 = .ok (.getfield 128, 3) := by decide +kernel
theorem dX5_triedLine_118 : decode cX5_triedLine 118 = .ok (.iconst 1, 1) := by decide +kernel
theorem dX5_triedLine_119 : decode cX5_triedLine 119 = .ok (.iadd, 1) := by decide +kernel
theorem dX5_triedLine_120 : decode cX5_triedLine 120 = .ok (.putfield 128, 3) := by decide +kernel
theorem dX5_triedLine_123 : decode cX5_triedLine 123 = .ok (.aload_n 0, 1) := by decide +kernel
theorem dX5_triedLine_124 : decode cX5_triedLine 124 = .ok (.getfield 12, 3) := by decide +kernel
theorem dX5_triedLine_127 : decode cX5_triedLine 127 = .ok (.invokevirtual 57, 3) := by decide +kernel
theorem dX5_triedLine_130 : decode cX5_triedLine 130 = .ok (.iconst 1, 1) := by decide +kernel
theorem dX5_triedLine_131 : decode cX5_triedLine 131 = .ok (.ireturn, 1) := by decide +kernel
theorem dX5_pairTold_0 : decode cX5_pairTold 0 = .ok (.aload_n 0, 1) := by decide +kernel
theorem dX5_pairTold_1 : decode cX5_pairTold 1 = .ok (.invokevirtual 179, 3) := by decide +kernel
theorem dX5_pairTold_4 : decode cX5_pairTold 4 = .ok (.istore_n 3, 1) := by decide +kernel
theorem dX5_pairTold_5 : decode cX5_pairTold 5 = .ok (.iload_n 3, 1) := by decide +kernel
theorem dX5_pairTold_6 : decode cX5_pairTold 6 = .ok (.ifCond .ge 5, 3) := by decide +kernel
theorem dX5_pairTold_9 : decode cX5_pairTold 9 = .ok (.iconst (-1), 1) := by decide +kernel
theorem dX5_pairTold_10 : decode cX5_pairTold 10 = .ok (.ireturn, 1) := by decide +kernel
theorem dX5_pairTold_11 : decode cX5_pairTold 11 = .ok (.aload_n 0, 1) := by decide +kernel
theorem dX5_pairTold_12 : decode cX5_pairTold 12 = .ok (.getfield 12, 3) := by decide +kernel
theorem dX5_pairTold_15 : decode cX5_pairTold 15 = .ok (.invokevirtual 57, 3) := by decide +kernel
theorem dX5_pairTold_18 : decode cX5_pairTold 18 = .ok (.aload_n 0, 1) := by decide +kernel
theorem dX5_pairTold_19 : decode cX5_pairTold 19 = .ok (.invokevirtual 179, 3) := by decide +kernel
theorem dX5_pairTold_22 : decode cX5_pairTold 22 = .ok (.istore 4, 2) := by decide +kernel
theorem dX5_pairTold_24 : decode cX5_pairTold 24 = .ok (.iload 4, 2) := by decide +kernel
theorem dX5_pairTold_26 : decode cX5_pairTold 26 = .ok (.ifCond .ge 5, 3) := by decide +kernel
theorem dX5_pairTold_29 : decode cX5_pairTold 29 = .ok (.iconst (-1), 1) := by decide +kernel
theorem dX5_pairTold_30 : decode cX5_pairTold 30 = .ok (.ireturn, 1) := by decide +kernel
theorem dX5_pairTold_31 : decode cX5_pairTold 31 = .ok (.aload_n 0, 1) := by decide +kernel
theorem dX5_pairTold_32 : decode cX5_pairTold 32 = .ok (.getfield 21, 3) := by decide +kernel
theorem dX5_pairTold_35 : decode cX5_pairTold 35 = .ok (.getfield 116, 3) := by decide +kernel
theorem dX5_pairTold_38 : decode cX5_pairTold 38 = .ok (.iload_n 3, 1) := by decide +kernel
theorem dX5_pairTold_39 : decode cX5_pairTold 39 = .ok (.iload 4, 2) := by decide +kernel
theorem dX5_pairTold_41 : decode cX5_pairTold 41 = .ok (.invokevirtual 182, 3) := by decide +kernel
theorem dX5_pairTold_44 : decode cX5_pairTold 44 = .ok (.istore 5, 2) := by decide +kernel
theorem dX5_pairTold_46 : decode cX5_pairTold 46 = .ok (.iload 5, 2) := by decide +kernel
theorem dX5_pairTold_48 : decode cX5_pairTold 48 = .ok (.ifCond .ge 11, 3) := by decide +kernel
theorem dX5_pairTold_51 : decode cX5_pairTold 51 = .ok (.aload_n 0, 1) := by decide +kernel
theorem dX5_pairTold_52 : decode cX5_pairTold 52 = .ok (.iconst 2, 1) := by decide +kernel
theorem dX5_pairTold_53 : decode cX5_pairTold 53 = .ok (.invokevirtual 53, 3) := by decide +kernel
theorem dX5_pairTold_56 : decode cX5_pairTold 56 = .ok (.pop, 1) := by decide +kernel
theorem dX5_pairTold_57 : decode cX5_pairTold 57 = .ok (.iconst (-1), 1) := by decide +kernel
theorem dX5_pairTold_58 : decode cX5_pairTold 58 = .ok (.ireturn, 1) := by decide +kernel
theorem dX5_pairTold_59 : decode cX5_pairTold 59 = .ok (.iconst 0, 1) := by decide +kernel
theorem dX5_pairTold_60 : decode cX5_pairTold 60 = .ok (.istore 6, 2) := by decide +kernel
theorem dX5_pairTold_62 : decode cX5_pairTold 62 = .ok (.iload 6, 2) := by decide +kernel
theorem dX5_pairTold_64 : decode cX5_pairTold 64 = .ok (.iload_n 2, 1) := by decide +kernel
theorem dX5_pairTold_65 : decode cX5_pairTold 65 = .ok (.if_icmp .ge 26, 3) := by decide +kernel
theorem dX5_pairTold_68 : decode cX5_pairTold 68 = .ok (.aload_n 1, 1) := by decide +kernel
theorem dX5_pairTold_69 : decode cX5_pairTold 69 = .ok (.iload 6, 2) := by decide +kernel
theorem dX5_pairTold_71 : decode cX5_pairTold 71 = .ok (.iaload, 1) := by decide +kernel
theorem dX5_pairTold_72 : decode cX5_pairTold 72 = .ok (.iload 5, 2) := by decide +kernel
theorem dX5_pairTold_74 : decode cX5_pairTold 74 = .ok (.if_icmp .ne 11, 3) := by decide +kernel
theorem dX5_pairTold_77 : decode cX5_pairTold 77 = .ok (.aload_n 0, 1) := by decide +kernel
theorem dX5_pairTold_78 : decode cX5_pairTold 78 = .ok (.iconst 3, 1) := by decide +kernel
theorem dX5_pairTold_79 : decode cX5_pairTold 79 = .ok (.invokevirtual 53, 3) := by decide +kernel
theorem dX5_pairTold_82 : decode cX5_pairTold 82 = .ok (.pop, 1) := by decide +kernel
theorem dX5_pairTold_83 : decode cX5_pairTold 83 = .ok (.iconst (-1), 1) := by decide +kernel
theorem dX5_pairTold_84 : decode cX5_pairTold 84 = .ok (.ireturn, 1) := by decide +kernel
theorem dX5_pairTold_85 : decode cX5_pairTold 85 = .ok (.iinc 6 1, 3) := by decide +kernel
theorem dX5_pairTold_88 : decode cX5_pairTold 88 = .ok (.goto (-26), 3) := by decide +kernel
theorem dX5_pairTold_91 : decode cX5_pairTold 91 = .ok (.aload_n 0, 1) := by decide +kernel
theorem dX5_pairTold_92 : decode cX5_pairTold 92 = .ok (.getfield 12, 3) := by decide +kernel
theorem dX5_pairTold_95 : decode cX5_pairTold 95 = .ok (.invokevirtual 57, 3) := by decide +kernel
theorem dX5_pairTold_98 : decode cX5_pairTold 98 = .ok (.iload 5, 2) := by decide +kernel
theorem dX5_pairTold_100 : decode cX5_pairTold 100 = .ok (.ireturn, 1) := by decide +kernel
theorem dX5_personTold_0 : decode cX5_personTold 0 = .ok (.aload_n 0, 1) := by decide +kernel
theorem dX5_personTold_1 : decode cX5_personTold 1 = .ok (.invokevirtual 79, 3) := by decide +kernel
theorem dX5_personTold_4 : decode cX5_personTold 4 = .ok (.bipush 6, 2) := by decide +kernel
theorem dX5_personTold_6 : decode cX5_personTold 6 = .ok (.if_icmp .eq 11, 3) := by decide +kernel
theorem dX5_personTold_9 : decode cX5_personTold 9 = .ok (.aload_n 0, 1) := by decide +kernel
theorem dX5_personTold_10 : decode cX5_personTold 10 = .ok (.iconst 1, 1) := by decide +kernel
theorem dX5_personTold_11 : decode cX5_personTold 11 = .ok (.invokevirtual 53, 3) := by decide +kernel
theorem dX5_personTold_14 : decode cX5_personTold 14 = .ok (.pop, 1) := by decide +kernel
theorem dX5_personTold_15 : decode cX5_personTold 15 = .ok (.iconst (-1), 1) := by decide +kernel
theorem dX5_personTold_16 : decode cX5_personTold 16 = .ok (.ireturn, 1) := by decide +kernel
theorem dX5_personTold_17 : decode cX5_personTold 17 = .ok (.aload_n 0, 1) := by decide +kernel
theorem dX5_personTold_18 : decode cX5_personTold 18 = .ok (.aload_n 0, 1) := by decide +kernel
theorem dX5_personTold_19 : decode cX5_personTold 19 = .ok (.getfield 12, 3) := by decide +kernel
theorem dX5_personTold_22 : decode cX5_personTold 22 = .ok (.getfield 63, 3) := by decide +kernel
theorem dX5_personTold_25 : decode cX5_personTold 25 = .ok (.invokevirtual 152, 3) := by decide +kernel
theorem dX5_personTold_28 : decode cX5_personTold 28 = .ok (.istore_n 1, 1) := by decide +kernel
theorem dX5_personTold_29 : decode cX5_personTold 29 = .ok (.iload_n 1, 1) := by decide +kernel
theorem dX5_personTold_30 : decode cX5_personTold 30 = .ok (.ifCond .ge 9, 3) := by decide +kernel
theorem dX5_personTold_33 : decode cX5_personTold 33 = .ok (.aload_n 0, 1) := by decide +kernel
theorem dX5_personTold_34 : decode cX5_personTold 34 = .ok (.iconst 2, 1) := by decide +kernel
theorem dX5_personTold_35 : decode cX5_personTold 35 = .ok (.invokevirtual 53, 3) := by decide +kernel
theorem dX5_personTold_38 : decode cX5_personTold 38 = .ok (.pop, 1) := by decide +kernel
theorem dX5_personTold_39 : decode cX5_personTold 39 = .ok (.iload_n 1, 1) := by decide +kernel
theorem dX5_personTold_40 : decode cX5_personTold 40 = .ok (.ireturn, 1) := by decide +kernel
theorem dX5_personNamed_0 : decode cX5_personNamed 0 = .ok (.iconst 0, 1) := by decide +kernel
theorem dX5_personNamed_1 : decode cX5_personNamed 1 = .ok (.istore_n 3, 1) := by decide +kernel
theorem dX5_personNamed_2 : decode cX5_personNamed 2 = .ok (.iload_n 3, 1) := by decide +kernel
theorem dX5_personNamed_3 : decode cX5_personNamed 3 = .ok (.aload_n 0, 1) := by decide +kernel
theorem dX5_personNamed_4 : decode cX5_personNamed 4 = .ok (.getfield 21, 3) := by decide +kernel
theorem dX5_personNamed_7 : decode cX5_personNamed 7 = .ok (.getfield 50, 3) := by decide +kernel
theorem dX5_personNamed_10 : decode cX5_personNamed 10 = .ok (.if_icmp .ge 22, 3) := by decide +kernel
theorem dX5_personNamed_13 : decode cX5_personNamed 13 = .ok (.aload_n 0, 1) := by decide +kernel
theorem dX5_personNamed_14 : decode cX5_personNamed 14 = .ok (.getfield 25, 3) := by decide +kernel
theorem dX5_personNamed_17 : decode cX5_personNamed 17 = .ok (.iload_n 3, 1) := by decide +kernel
theorem dX5_personNamed_18 : decode cX5_personNamed 18 = .ok (.laload, 1) := by decide +kernel
theorem dX5_personNamed_19 : decode cX5_personNamed 19 = .ok (.lload_n 1, 1) := by decide +kernel
theorem dX5_personNamed_20 : decode cX5_personNamed 20 = .ok (.lcmp, 1) := by decide +kernel
theorem dX5_personNamed_21 : decode cX5_personNamed 21 = .ok (.ifCond .ne 5, 3) := by decide +kernel
theorem dX5_personNamed_24 : decode cX5_personNamed 24 = .ok (.iload_n 3, 1) := by decide +kernel
theorem dX5_personNamed_25 : decode cX5_personNamed 25 = .ok (.ireturn, 1) := by decide +kernel
theorem dX5_personNamed_26 : decode cX5_personNamed 26 = .ok (.iinc 3 1, 3) := by decide +kernel
theorem dX5_personNamed_29 : decode cX5_personNamed 29 = .ok (.goto (-27), 3) := by decide +kernel
theorem dX5_personNamed_32 : decode cX5_personNamed 32 = .ok (.iconst (-1), 1) := by decide +kernel
theorem dX5_personNamed_33 : decode cX5_personNamed 33 = .ok (.ireturn, 1) := by decide +kernel
theorem dX5_isTaken_0 : decode cX5_isTaken 0 = .ok (.iconst 0, 1) := by decide +kernel
theorem dX5_isTaken_1 : decode cX5_isTaken 1 = .ok (.istore_n 2, 1) := by decide +kernel
theorem dX5_isTaken_2 : decode cX5_isTaken 2 = .ok (.iload_n 2, 1) := by decide +kernel
theorem dX5_isTaken_3 : decode cX5_isTaken 3 = .ok (.aload_n 0, 1) := by decide +kernel
theorem dX5_isTaken_4 : decode cX5_isTaken 4 = .ok (.getfield 21, 3) := by decide +kernel
theorem dX5_isTaken_7 : decode cX5_isTaken 7 = .ok (.getfield 50, 3) := by decide +kernel
theorem dX5_isTaken_10 : decode cX5_isTaken 10 = .ok (.if_icmp .ge 27, 3) := by decide +kernel
theorem dX5_isTaken_13 : decode cX5_isTaken 13 = .ok (.aload_n 0, 1) := by decide +kernel
theorem dX5_isTaken_14 : decode cX5_isTaken 14 = .ok (.getfield 21, 3) := by decide +kernel
theorem dX5_isTaken_17 : decode cX5_isTaken 17 = .ok (.getfield 116, 3) := by decide +kernel
theorem dX5_isTaken_20 : decode cX5_isTaken 20 = .ok (.getfield 172, 3) := by decide +kernel
theorem dX5_isTaken_23 : decode cX5_isTaken 23 = .ok (.iload_n 2, 1) := by decide +kernel
theorem dX5_isTaken_24 : decode cX5_isTaken 24 = .ok (.iaload, 1) := by decide +kernel
theorem dX5_isTaken_25 : decode cX5_isTaken 25 = .ok (.iload_n 1, 1) := by decide +kernel
theorem dX5_isTaken_26 : decode cX5_isTaken 26 = .ok (.if_icmp .ne 5, 3) := by decide +kernel
theorem dX5_isTaken_29 : decode cX5_isTaken 29 = .ok (.iconst 1, 1) := by decide +kernel
theorem dX5_isTaken_30 : decode cX5_isTaken 30 = .ok (.ireturn, 1) := by decide +kernel
theorem dX5_isTaken_31 : decode cX5_isTaken 31 = .ok (.iinc 2 1, 3) := by decide +kernel
theorem dX5_isTaken_34 : decode cX5_isTaken 34 = .ok (.goto (-32), 3) := by decide +kernel
theorem dX5_isTaken_37 : decode cX5_isTaken 37 = .ok (.iconst 0, 1) := by decide +kernel
theorem dX5_isTaken_38 : decode cX5_isTaken 38 = .ok (.ireturn, 1) := by decide +kernel
theorem dX5_kindOfWord_0 : decode cX5_kindOfWord 0 = .ok (.aload_n 0, 1) := by decide +kernel
theorem dX5_kindOfWord_1 : decode cX5_kindOfWord 1 = .ok (.getfield 12, 3) := by decide +kernel
theorem dX5_kindOfWord_4 : decode cX5_kindOfWord 4 = .ok (.getfield 63, 3) := by decide +kernel
theorem dX5_kindOfWord_7 : decode cX5_kindOfWord 7 = .ok (.ldc2_w 215, 3) := by decide +kernel
theorem dX5_kindOfWord_10 : decode cX5_kindOfWord 10 = .ok (.lcmp, 1) := by decide +kernel
theorem dX5_kindOfWord_11 : decode cX5_kindOfWord 11 = .ok (.ifCond .ne 5, 3) := by decide +kernel
theorem dX5_kindOfWord_14 : decode cX5_kindOfWord 14 = .ok (.iconst 0, 1) := by decide +kernel
theorem dX5_kindOfWord_15 : decode cX5_kindOfWord 15 = .ok (.ireturn, 1) := by decide +kernel
theorem dX5_kindOfWord_16 : decode cX5_kindOfWord 16 = .ok (.aload_n 0, 1) := by decide +kernel
theorem dX5_kindOfWord_17 : decode cX5_kindOfWord 17 = .ok (.getfield 12, 3) := by decide +kernel
theorem dX5_kindOfWord_20 : decode cX5_kindOfWord 20 = .ok (.getfield 63, 3) := by decide +kernel
theorem dX5_kindOfWord_23 : decode cX5_kindOfWord 23 = .ok (.ldc2_w 217, 3) := by decide +kernel
theorem dX5_kindOfWord_26 : decode cX5_kindOfWord 26 = .ok (.lcmp, 1) := by decide +kernel
theorem dX5_kindOfWord_27 : decode cX5_kindOfWord 27 = .ok (.ifCond .ne 5, 3) := by decide +kernel
theorem dX5_kindOfWord_30 : decode cX5_kindOfWord 30 = .ok (.iconst 1, 1) := by decide +kernel
theorem dX5_kindOfWord_31 : decode cX5_kindOfWord 31 = .ok (.ireturn, 1) := by decide +kernel
theorem dX5_kindOfWord_32 : decode cX5_kindOfWord 32 = .ok (.aload_n 0, 1) := by decide +kernel
theorem dX5_kindOfWord_33 : decode cX5_kindOfWord 33 = .ok (.getfield 12, 3) := by decide +kernel
theorem dX5_kindOfWord_36 : decode cX5_kindOfWord 36 = .ok (.getfield 63, 3) := by decide +kernel
theorem dX5_kindOfWord_39 : decode cX5_kindOfWord 39 = .ok (.ldc2_w 219, 3) := by decide +kernel
theorem dX5_kindOfWord_42 : decode cX5_kindOfWord 42 = .ok (.lcmp, 1) := by decide +kernel
theorem dX5_kindOfWord_43 : decode cX5_kindOfWord 43 = .ok (.ifCond .ne 7, 3) := by decide +kernel
theorem dX5_kindOfWord_46 : decode cX5_kindOfWord 46 = .ok (.iconst 2, 1) := by decide +kernel
theorem dX5_kindOfWord_47 : decode cX5_kindOfWord 47 = .ok (.goto 4, 3) := by decide +kernel
theorem dX5_kindOfWord_50 : decode cX5_kindOfWord 50 = .ok (.iconst (-1), 1) := by decide +kernel
theorem dX5_kindOfWord_51 : decode cX5_kindOfWord 51 = .ok (.ireturn, 1) := by decide +kernel
theorem dX5_isKeyword_0 : decode cX5_isKeyword 0 = .ok (.aload_n 0, 1) := by decide +kernel
theorem dX5_isKeyword_1 : decode cX5_isKeyword 1 = .ok (.getfield 12, 3) := by decide +kernel
theorem dX5_isKeyword_4 : decode cX5_isKeyword 4 = .ok (.getfield 63, 3) := by decide +kernel
theorem dX5_isKeyword_7 : decode cX5_isKeyword 7 = .ok (.lload_n 1, 1) := by decide +kernel
theorem dX5_isKeyword_8 : decode cX5_isKeyword 8 = .ok (.lcmp, 1) := by decide +kernel
theorem dX5_isKeyword_9 : decode cX5_isKeyword 9 = .ok (.ifCond .eq 11, 3) := by decide +kernel
theorem dX5_isKeyword_12 : decode cX5_isKeyword 12 = .ok (.aload_n 0, 1) := by decide +kernel
theorem dX5_isKeyword_13 : decode cX5_isKeyword 13 = .ok (.iconst 1, 1) := by decide +kernel
theorem dX5_isKeyword_14 : decode cX5_isKeyword 14 = .ok (.invokevirtual 53, 3) := by decide +kernel
theorem dX5_isKeyword_17 : decode cX5_isKeyword 17 = .ok (.ifCond .eq 7, 3) := by decide +kernel
theorem dX5_isKeyword_20 : decode cX5_isKeyword 20 = .ok (.iconst 1, 1) := by decide +kernel
theorem dX5_isKeyword_21 : decode cX5_isKeyword 21 = .ok (.goto 4, 3) := by decide +kernel
theorem dX5_isKeyword_24 : decode cX5_isKeyword 24 = .ok (.iconst 0, 1) := by decide +kernel
theorem dX5_isKeyword_25 : decode cX5_isKeyword 25 = .ok (.ireturn, 1) := by decide +kernel
theorem dX5_isWhole_0 : decode cX5_isWhole 0 = .ok (.aload_n 0, 1) := by decide +kernel
theorem dX5_isWhole_1 : decode cX5_isWhole 1 = .ok (.getfield 12, 3) := by decide +kernel
theorem dX5_isWhole_4 : decode cX5_isWhole 4 = .ok (.getfield 47, 3) := by decide +kernel
theorem dX5_isWhole_7 : decode cX5_isWhole 7 = .ok (.iconst 2, 1) := by decide +kernel
theorem dX5_isWhole_8 : decode cX5_isWhole 8 = .ok (.if_icmp .eq 9, 3) := by decide +kernel
theorem dX5_isWhole_11 : decode cX5_isWhole 11 = .ok (.aload_n 0, 1) := by decide +kernel
theorem dX5_isWhole_12 : decode cX5_isWhole 12 = .ok (.iconst 1, 1) := by decide +kernel
theorem dX5_isWhole_13 : decode cX5_isWhole 13 = .ok (.invokevirtual 53, 3) := by decide +kernel
theorem dX5_isWhole_16 : decode cX5_isWhole 16 = .ok (.ireturn, 1) := by decide +kernel
theorem dX5_isWhole_17 : decode cX5_isWhole 17 = .ok (.aload_n 0, 1) := by decide +kernel
theorem dX5_isWhole_18 : decode cX5_isWhole 18 = .ok (.getfield 12, 3) := by decide +kernel
theorem dX5_isWhole_21 : decode cX5_isWhole 21 = .ok (.getfield 166, 3) := by decide +kernel
theorem dX5_isWhole_24 : decode cX5_isWhole 24 = .ok (.iload_n 1, 1) := by decide +kernel
theorem dX5_isWhole_25 : decode cX5_isWhole 25 = .ok (.if_icmp .lt 14, 3) := by decide +kernel
theorem dX5_isWhole_28 : decode cX5_isWhole 28 = .ok (.aload_n 0, 1) := by decide +kernel
theorem dX5_isWhole_29 : decode cX5_isWhole 29 = .ok (.getfield 12, 3) := by decide +kernel
theorem dX5_isWhole_32 : decode cX5_isWhole 32 = .ok (.getfield 166, 3) := by decide +kernel
theorem dX5_isWhole_35 : decode cX5_isWhole 35 = .ok (.iload_n 2, 1) := by decide +kernel
theorem dX5_isWhole_36 : decode cX5_isWhole 36 = .ok (.if_icmp .le 11, 3) := by decide +kernel
theorem dX5_isWhole_39 : decode cX5_isWhole 39 = .ok (.aload_n 0, 1) := by decide +kernel
theorem dX5_isWhole_40 : decode cX5_isWhole 40 = .ok (.iconst 4, 1) := by decide +kernel
theorem dX5_isWhole_41 : decode cX5_isWhole 41 = .ok (.invokevirtual 53, 3) := by decide +kernel
theorem dX5_isWhole_44 : decode cX5_isWhole 44 = .ok (.ifCond .eq 7, 3) := by decide +kernel
theorem dX5_isWhole_47 : decode cX5_isWhole 47 = .ok (.iconst 1, 1) := by decide +kernel
theorem dX5_isWhole_48 : decode cX5_isWhole 48 = .ok (.goto 4, 3) := by decide +kernel
theorem dX5_isWhole_51 : decode cX5_isWhole 51 = .ok (.iconst 0, 1) := by decide +kernel
theorem dX5_isWhole_52 : decode cX5_isWhole 52 = .ok (.ireturn, 1) := by decide +kernel
theorem dX5_amount_0 : decode cX5_amount 0 = .ok (.aload_n 0, 1) := by decide +kernel
theorem dX5_amount_1 : decode cX5_amount 1 = .ok (.lload_n 1, 1) := by decide +kernel
theorem dX5_amount_2 : decode cX5_amount 2 = .ok (.invokevirtual 158, 3) := by decide +kernel
theorem dX5_amount_5 : decode cX5_amount 5 = .ok (.ifCond .ne 5, 3) := by decide +kernel
theorem dX5_amount_8 : decode cX5_amount 8 = .ok (.iconst (-1), 1) := by decide +kernel
theorem dX5_amount_9 : decode cX5_amount 9 = .ok (.ireturn, 1) := by decide +kernel
theorem dX5_amount_10 : decode cX5_amount 10 = .ok (.aload_n 0, 1) := by decide +kernel
theorem dX5_amount_11 : decode cX5_amount 11 = .ok (.getfield 12, 3) := by decide +kernel
theorem dX5_amount_14 : decode cX5_amount 14 = .ok (.invokevirtual 57, 3) := by decide +kernel
theorem dX5_amount_17 : decode cX5_amount 17 = .ok (.aload_n 0, 1) := by decide +kernel
theorem dX5_amount_18 : decode cX5_amount 18 = .ok (.iload_n 3, 1) := by decide +kernel
theorem dX5_amount_19 : decode cX5_amount 19 = .ok (.iload 4, 2) := by decide +kernel
theorem dX5_amount_21 : decode cX5_amount 21 = .ok (.invokevirtual 162, 3) := by decide +kernel
theorem dX5_amount_24 : decode cX5_amount 24 = .ok (.ifCond .ne 5, 3) := by decide +kernel
theorem dX5_amount_27 : decode cX5_amount 27 = .ok (.iconst (-1), 1) := by decide +kernel
theorem dX5_amount_28 : decode cX5_amount 28 = .ok (.ireturn, 1) := by decide +kernel
theorem dX5_amount_29 : decode cX5_amount 29 = .ok (.aload_n 0, 1) := by decide +kernel
theorem dX5_amount_30 : decode cX5_amount 30 = .ok (.getfield 12, 3) := by decide +kernel
theorem dX5_amount_33 : decode cX5_amount 33 = .ok (.getfield 166, 3) := by decide +kernel
theorem dX5_amount_36 : decode cX5_amount 36 = .ok (.istore 5, 2) := by decide +kernel
theorem dX5_amount_38 : decode cX5_amount 38 = .ok (.aload_n 0, 1) := by decide +kernel
theorem dX5_amount_39 : decode cX5_amount 39 = .ok (.getfield 12, 3) := by decide +kernel
theorem dX5_amount_42 : decode cX5_amount 42 = .ok (.invokevirtual 57, 3) := by decide +kernel
theorem dX5_amount_45 : decode cX5_amount 45 = .ok (.iload 5, 2) := by decide +kernel
theorem dX5_amount_47 : decode cX5_amount 47 = .ok (.ireturn, 1) := by decide +kernel
theorem dX6_init_0 : decode cX6_init 0 = .ok (.aload_n 0, 1) := by decide +kernel
theorem dX6_init_1 : decode cX6_init 1 = .ok (.invokespecial 3, 3) := by decide +kernel
theorem dX6_init_4 : decode cX6_init 4 = .ok (.aload_n 0, 1) := by decide +kernel
theorem dX6_init_5 : decode cX6_init 5 = .ok (.bipush 16, 2) := by decide +kernel
theorem dX6_init_7 : decode cX6_init 7 = .ok (.newarray .int, 2) := by decide +kernel
theorem dX6_init_9 : decode cX6_init 9 = .ok (.putfield 9, 3) := by decide +kernel
theorem dX6_init_12 : decode cX6_init 12 = .ok (.aload_n 0, 1) := by decide +kernel
theorem dX6_init_13 : decode cX6_init 13 = .ok (.bipush 16, 2) := by decide +kernel
theorem dX6_init_15 : decode cX6_init 15 = .ok (.newarray .int, 2) := by decide +kernel
theorem dX6_init_17 : decode cX6_init 17 = .ok (.putfield 15, 3) := by decide +kernel
theorem dX6_init_20 : decode cX6_init 20 = .ok (.aload_n 0, 1) := by decide +kernel
theorem dX6_init_21 : decode cX6_init 21 = .ok (.bipush 16, 2) := by decide +kernel
theorem dX6_init_23 : decode cX6_init 23 = .ok (.newarray .int, 2) := by decide +kernel
theorem dX6_init_25 : decode cX6_init 25 = .ok (.putfield 18, 3) := by decide +kernel
theorem dX6_init_28 : decode cX6_init 28 = .ok (.return_, 1) := by decide +kernel
theorem dX6_keep_0 : decode cX6_keep 0 = .ok (.aload_n 0, 1) := by decide +kernel
theorem dX6_keep_1 : decode cX6_keep 1 = .ok (.getfield 9, 3) := by decide +kernel
theorem dX6_keep_4 : decode cX6_keep 4 = .ok (.aload_n 0, 1) := by decide +kernel
theorem dX6_keep_5 : decode cX6_keep 5 = .ok (.getfield 21, 3) := by decide +kernel
theorem dX6_keep_8 : decode cX6_keep 8 = .ok (.iload_n 1, 1) := by decide +kernel
theorem dX6_keep_9 : decode cX6_keep 9 = .ok (.iastore, 1) := by decide +kernel
theorem dX6_keep_10 : decode cX6_keep 10 = .ok (.aload_n 0, 1) := by decide +kernel
theorem dX6_keep_11 : decode cX6_keep 11 = .ok (.getfield 15, 3) := by decide +kernel
theorem dX6_keep_14 : decode cX6_keep 14 = .ok (.aload_n 0, 1) := by decide +kernel
theorem dX6_keep_15 : decode cX6_keep 15 = .ok (.getfield 21, 3) := by decide +kernel
theorem dX6_keep_18 : decode cX6_keep 18 = .ok (.iload_n 2, 1) := by decide +kernel
theorem dX6_keep_19 : decode cX6_keep 19 = .ok (.iastore, 1) := by decide +kernel
theorem dX6_keep_20 : decode cX6_keep 20 = .ok (.aload_n 0, 1) := by decide +kernel
theorem dX6_keep_21 : decode cX6_keep 21 = .ok (.getfield 18, 3) := by decide +kernel
theorem dX6_keep_24 : decode cX6_keep 24 = .ok (.aload_n 0, 1) := by decide +kernel
theorem dX6_keep_25 : decode cX6_keep 25 = .ok (.getfield 21, 3) := by decide +kernel
theorem dX6_keep_28 : decode cX6_keep 28 = .ok (.iload_n 3, 1) := by decide +kernel
theorem dX6_keep_29 : decode cX6_keep 29 = .ok (.iastore, 1) := by decide +kernel
theorem dX6_keep_30 : decode cX6_keep 30 = .ok (.aload_n 0, 1) := by decide +kernel
theorem dX6_keep_31 : decode cX6_keep 31 = .ok (.aload_n 0, 1) := by decide +kernel
theorem dX6_keep_32 : decode cX6_keep 32 = .ok (.getfield 21, 3) := by decide +kernel
theorem dX6_keep_35 : decode cX6_keep 35 = .ok (.iconst 1, 1) := by decide +kernel
theorem dX6_keep_36 : decode cX6_keep 36 = .ok (.iadd, 1) := by decide +kernel
theorem dX6_keep_37 : decode cX6_keep 37 = .ok (.bipush 16, 2) := by decide +kernel
theorem dX6_keep_39 : decode cX6_keep 39 = .ok (.irem, 1) := by decide +kernel
theorem dX6_keep_40 : decode cX6_keep 40 = .ok (.putfield 21, 3) := by decide +kernel
theorem dX6_keep_43 : decode cX6_keep 43 = .ok (.aload_n 0, 1) := by decide +kernel
theorem dX6_keep_44 : decode cX6_keep 44 = .ok (.aload_n 0, 1) := by decide +kernel
theorem dX6_keep_45 : decode cX6_keep 45 = .ok (.getfield 25, 3) := by decide +kernel
theorem dX6_keep_48 : decode cX6_keep 48 = .ok (.iconst 1, 1) := by decide +kernel
theorem dX6_keep_49 : decode cX6_keep 49 = .ok (.iadd, 1) := by decide +kernel
theorem dX6_keep_50 : decode cX6_keep 50 = .ok (.bipush 16, 2) := by decide +kernel
theorem dX6_keep_52 : decode cX6_keep 52 = .ok (.invokestatic 28, 3) := by decide +kernel
theorem dX6_keep_55 : decode cX6_keep 55 = .ok (.putfield 25, 3) := by decide +kernel
theorem dX6_keep_58 : decode cX6_keep 58 = .ok (.return_, 1) := by decide +kernel
theorem dX6_takeLatest_0 : decode cX6_takeLatest 0 = .ok (.aload_n 0, 1) := by decide +kernel
theorem dX6_takeLatest_1 : decode cX6_takeLatest 1 = .ok (.aload_n 0, 1) := by decide +kernel
theorem dX6_takeLatest_2 : decode cX6_takeLatest 2 = .ok (.getfield 21, 3) := by decide +kernel
theorem dX6_takeLatest_5 : decode cX6_takeLatest 5 = .ok (.bipush 16, 2) := by decide +kernel
theorem dX6_takeLatest_7 : decode cX6_takeLatest 7 = .ok (.iadd, 1) := by decide +kernel
theorem dX6_takeLatest_8 : decode cX6_takeLatest 8 = .ok (.iconst 1, 1) := by decide +kernel
theorem dX6_takeLatest_9 : decode cX6_takeLatest 9 = .ok (.isub, 1) := by decide +kernel
theorem dX6_takeLatest_10 : decode cX6_takeLatest 10 = .ok (.bipush 16, 2) := by decide +kernel
theorem dX6_takeLatest_12 : decode cX6_takeLatest 12 = .ok (.irem, 1) := by decide +kernel
theorem dX6_takeLatest_13 : decode cX6_takeLatest 13 = .ok (.putfield 21, 3) := by decide +kernel
theorem dX6_takeLatest_16 : decode cX6_takeLatest 16 = .ok (.aload_n 0, 1) := by decide +kernel
theorem dX6_takeLatest_17 : decode cX6_takeLatest 17 = .ok (.dup, 1) := by decide +kernel
theorem dX6_takeLatest_18 : decode cX6_takeLatest 18 = .ok (.getfield 25, 3) := by decide +kernel
theorem dX6_takeLatest_21 : decode cX6_takeLatest 21 = .ok (.iconst 1, 1) := by decide +kernel
theorem dX6_takeLatest_22 : decode cX6_takeLatest 22 = .ok (.isub, 1) := by decide +kernel
theorem dX6_takeLatest_23 : decode cX6_takeLatest 23 = .ok (.putfield 25, 3) := by decide +kernel
theorem dX6_takeLatest_26 : decode cX6_takeLatest 26 = .ok (.aload_n 0, 1) := by decide +kernel
theorem dX6_takeLatest_27 : decode cX6_takeLatest 27 = .ok (.getfield 21, 3) := by decide +kernel
theorem dX6_takeLatest_30 : decode cX6_takeLatest 30 = .ok (.ireturn, 1) := by decide +kernel
theorem dX7_init_0 : decode cX7_init 0 = .ok (.aload_n 0, 1) := by decide +kernel
theorem dX7_init_1 : decode cX7_init 1 = .ok (.invokespecial 3, 3) := by decide +kernel
theorem dX7_init_4 : decode cX7_init 4 = .ok (.aload_n 0, 1) := by decide +kernel
theorem dX7_init_5 : decode cX7_init 5 = .ok (.sipush 800, 3) := by decide +kernel
theorem dX7_init_8 : decode cX7_init 8 = .ok (.newarray .byte, 2) := by decide +kernel
theorem dX7_init_10 : decode cX7_init 10 = .ok (.putfield 9, 3) := by decide +kernel
theorem dX7_init_13 : decode cX7_init 13 = .ok (.return_, 1) := by decide +kernel
theorem dX7_append_0 : decode cX7_append 0 = .ok (.bipush 24, 2) := by decide +kernel
theorem dX7_append_2 : decode cX7_append 2 = .ok (.istore_n 2, 1) := by decide +kernel
theorem dX7_append_3 : decode cX7_append 3 = .ok (.iload_n 2, 1) := by decide +kernel
theorem dX7_append_4 : decode cX7_append 4 = .ok (.ifCond .lt 42, 3) := by decide +kernel
theorem dX7_append_7 : decode cX7_append 7 = .ok (.aload_n 0, 1) := by decide +kernel
theorem dX7_append_8 : decode cX7_append 8 = .ok (.getfield 15, 3) := by decide +kernel
theorem dX7_append_11 : decode cX7_append 11 = .ok (.sipush 800, 3) := by decide +kernel
theorem dX7_append_14 : decode cX7_append 14 = .ok (.if_icmp .ge 26, 3) := by decide +kernel
theorem dX7_append_17 : decode cX7_append 17 = .ok (.aload_n 0, 1) := by decide +kernel
theorem dX7_append_18 : decode cX7_append 18 = .ok (.getfield 9, 3) := by decide +kernel
theorem dX7_append_21 : decode cX7_append 21 = .ok (.aload_n 0, 1) := by decide +kernel
theorem dX7_append_22 : decode cX7_append 22 = .ok (.getfield 15, 3) := by decide +kernel
theorem dX7_append_25 : decode cX7_append 25 = .ok (.iload_n 1, 1) := by decide +kernel
theorem dX7_append_26 : decode cX7_append 26 = .ok (.iload_n 2, 1) := by decide +kernel
theorem dX7_append_27 : decode cX7_append 27 = .ok (.ishr, 1) := by decide +kernel
theorem dX7_append_28 : decode cX7_append 28 = .ok (.i2b, 1) := by decide +kernel
theorem dX7_append_29 : decode cX7_append 29 = .ok (.bastore, 1) := by decide +kernel
theorem dX7_append_30 : decode cX7_append 30 = .ok (.aload_n 0, 1) := by decide +kernel
theorem dX7_append_31 : decode cX7_append 31 = .ok (.dup, 1) := by decide +kernel
theorem dX7_append_32 : decode cX7_append 32 = .ok (.getfield 15, 3) := by decide +kernel
theorem dX7_append_35 : decode cX7_append 35 = .ok (.iconst 1, 1) := by decide +kernel
theorem dX7_append_36 : decode cX7_append 36 = .ok (.iadd, 1) := by decide +kernel
theorem dX7_append_37 : decode cX7_append 37 = .ok (.putfield 15, 3) := by decide +kernel
theorem dX7_append_40 : decode cX7_append 40 = .ok (.iinc 2 (-8), 3) := by decide +kernel
theorem dX7_append_43 : decode cX7_append 43 = .ok (.goto (-40), 3) := by decide +kernel
theorem dX7_append_46 : decode cX7_append 46 = .ok (.return_, 1) := by decide +kernel
theorem dX7_begin_0 : decode cX7_begin 0 = .ok (.aload_n 0, 1) := by decide +kernel
theorem dX7_begin_1 : decode cX7_begin 1 = .ok (.iload_n 1, 1) := by decide +kernel
theorem dX7_begin_2 : decode cX7_begin 2 = .ok (.sipush 800, 3) := by decide +kernel
theorem dX7_begin_5 : decode cX7_begin 5 = .ok (.invokestatic 19, 3) := by decide +kernel
theorem dX7_begin_8 : decode cX7_begin 8 = .ok (.putfield 25, 3) := by decide +kernel
theorem dX7_begin_11 : decode cX7_begin 11 = .ok (.aload_n 0, 1) := by decide +kernel
theorem dX7_begin_12 : decode cX7_begin 12 = .ok (.iconst 0, 1) := by decide +kernel
theorem dX7_begin_13 : decode cX7_begin 13 = .ok (.putfield 28, 3) := by decide +kernel
theorem dX7_begin_16 : decode cX7_begin 16 = .ok (.aload_n 0, 1) := by decide +kernel
theorem dX7_begin_17 : decode cX7_begin 17 = .ok (.invokevirtual 31, 3) := by decide +kernel
theorem dX7_begin_20 : decode cX7_begin 20 = .ok (.return_, 1) := by decide +kernel
theorem dX7_step_0 : decode cX7_step 0 = .ok (.aload_n 0, 1) := by decide +kernel
theorem dX7_step_1 : decode cX7_step 1 = .ok (.aload_n 0, 1) := by decide +kernel
theorem dX7_step_2 : decode cX7_step 2 = .ok (.aload_n 0, 1) := by decide +kernel
theorem dX7_step_3 : decode cX7_step 3 = .ok (.getfield 28, 3) := by decide +kernel
theorem dX7_step_6 : decode cX7_step 6 = .ok (.bipush 32, 2) := by decide +kernel
theorem dX7_step_8 : decode cX7_step 8 = .ok (.bipush 32, 2) := by decide +kernel
theorem dX7_step_10 : decode cX7_step 10 = .ok (.invokevirtual 34, 3) := by decide +kernel
theorem dX7_step_13 : decode cX7_step 13 = .ok (.putfield 28, 3) := by decide +kernel
theorem dX7_step_16 : decode cX7_step 16 = .ok (.aload_n 0, 1) := by decide +kernel
theorem dX7_step_17 : decode cX7_step 17 = .ok (.aload_n 0, 1) := by decide +kernel
theorem dX7_step_18 : decode cX7_step 18 = .ok (.getfield 28, 3) := by decide +kernel
theorem dX7_step_21 : decode cX7_step 21 = .ok (.putfield 38, 3) := by decide +kernel
theorem dX7_step_24 : decode cX7_step 24 = .ok (.aload_n 0, 1) := by decide +kernel
theorem dX7_step_25 : decode cX7_step 25 = .ok (.iconst 0, 1) := by decide +kernel
theorem dX7_step_26 : decode cX7_step 26 = .ok (.putfield 41, 3) := by decide +kernel
theorem dX7_step_29 : decode cX7_step 29 = .ok (.aload_n 0, 1) := by decide +kernel
theorem dX7_step_30 : decode cX7_step 30 = .ok (.lconst 0, 1) := by decide +kernel
theorem dX7_step_31 : decode cX7_step 31 = .ok (.putfield 44, 3) := by decide +kernel
theorem dX7_step_34 : decode cX7_step 34 = .ok (.aload_n 0, 1) := by decide +kernel
theorem dX7_step_35 : decode cX7_step 35 = .ok (.getfield 38, 3) := by decide +kernel
theorem dX7_step_38 : decode cX7_step 38 = .ok (.aload_n 0, 1) := by decide +kernel
theorem dX7_step_39 : decode cX7_step 39 = .ok (.getfield 25, 3) := by decide +kernel
theorem dX7_step_42 : decode cX7_step 42 = .ok (.if_icmp .ge 15, 3) := by decide +kernel
theorem dX7_step_45 : decode cX7_step 45 = .ok (.aload_n 0, 1) := by decide +kernel
theorem dX7_step_46 : decode cX7_step 46 = .ok (.getfield 9, 3) := by decide +kernel
theorem dX7_step_49 : decode cX7_step 49 = .ok (.aload_n 0, 1) := by decide +kernel
theorem dX7_step_50 : decode cX7_step 50 = .ok (.getfield 38, 3) := by decide +kernel
theorem dX7_step_53 : decode cX7_step 53 = .ok (.baload, 1) := by decide +kernel
theorem dX7_step_54 : decode cX7_step 54 = .ok (.goto 4, 3) := by decide +kernel
theorem dX7_step_57 : decode cX7_step 57 = .ok (.iconst 0, 1) := by decide +kernel
theorem dX7_step_58 : decode cX7_step 58 = .ok (.istore_n 1, 1) := by decide +kernel
theorem dX7_step_59 : decode cX7_step 59 = .ok (.aload_n 0, 1) := by decide +kernel
theorem dX7_step_60 : decode cX7_step 60 = .ok (.getfield 38, 3) := by decide +kernel
theorem dX7_step_63 : decode cX7_step 63 = .ok (.aload_n 0, 1) := by decide +kernel
theorem dX7_step_64 : decode cX7_step 64 = .ok (.getfield 25, 3) := by decide +kernel
theorem dX7_step_67 : decode cX7_step 67 = .ok (.if_icmp .lt 11, 3) := by decide +kernel
theorem dX7_step_70 : decode cX7_step 70 = .ok (.aload_n 0, 1) := by decide +kernel
theorem dX7_step_71 : decode cX7_step 71 = .ok (.iconst 0, 1) := by decide +kernel
theorem dX7_step_72 : decode cX7_step 72 = .ok (.putfield 48, 3) := by decide +kernel
theorem dX7_step_75 : decode cX7_step 75 = .ok (.goto 102, 3) := by decide +kernel
theorem dX7_step_78 : decode cX7_step 78 = .ok (.iload_n 1, 1) := by decide +kernel
theorem dX7_step_79 : decode cX7_step 79 = .ok (.bipush 59, 2) := by decide +kernel
theorem dX7_step_81 : decode cX7_step 81 = .ok (.if_icmp .ne 21, 3) := by decide +kernel
theorem dX7_step_84 : decode cX7_step 84 = .ok (.aload_n 0, 1) := by decide +kernel
theorem dX7_step_85 : decode cX7_step 85 = .ok (.iconst 3, 1) := by decide +kernel
theorem dX7_step_86 : decode cX7_step 86 = .ok (.putfield 48, 3) := by decide +kernel
theorem dX7_step_89 : decode cX7_step 89 = .ok (.aload_n 0, 1) := by decide +kernel
theorem dX7_step_90 : decode cX7_step 90 = .ok (.aload_n 0, 1) := by decide +kernel
theorem dX7_step_91 : decode cX7_step 91 = .ok (.getfield 38, 3) := by decide +kernel
theorem dX7_step_94 : decode cX7_step 94 = .ok (.iconst 1, 1) := by decide +kernel
theorem dX7_step_95 : decode cX7_step 95 = .ok (.iadd, 1) := by decide +kernel
theorem dX7_step_96 : decode cX7_step 96 = .ok (.putfield 28, 3) := by decide +kernel
theorem dX7_step_99 : decode cX7_step 99 = .ok (.goto 78, 3) := by decide +kernel
theorem dX7_step_102 : decode cX7_step 102 = .ok (.iload_n 1, 1) := by decide +kernel
theorem dX7_step_103 : decode cX7_step 103 = .ok (.bipush 48, 2) := by decide +kernel
theorem dX7_step_105 : decode cX7_step 105 = .ok (.if_icmp .lt 32, 3) := by decide +kernel
theorem dX7_step_108 : decode cX7_step 108 = .ok (.iload_n 1, 1) := by decide +kernel
theorem dX7_step_109 : decode cX7_step 109 = .ok (.bipush 57, 2) := by decide +kernel
theorem dX7_step_111 : decode cX7_step 111 = .ok (.if_icmp .gt 26, 3) := by decide +kernel
theorem dX7_step_114 : decode cX7_step 114 = .ok (.aload_n 0, 1) := by decide +kernel
theorem dX7_step_115 : decode cX7_step 115 = .ok (.aload_n 0, 1) := by decide +kernel
theorem dX7_step_116 : decode cX7_step 116 = .ok (.aload_n 0, 1) := by decide +kernel
theorem dX7_step_117 : decode cX7_step 117 = .ok (.getfield 38, 3) := by decide +kernel
theorem dX7_step_120 : decode cX7_step 120 = .ok (.bipush 48, 2) := by decide +kernel
theorem dX7_step_122 : decode cX7_step 122 = .ok (.bipush 57, 2) := by decide +kernel
theorem dX7_step_124 : decode cX7_step 124 = .ok (.invokevirtual 34, 3) := by decide +kernel
theorem dX7_step_127 : decode cX7_step 127 = .ok (.putfield 28, 3) := by decide +kernel
theorem dX7_step_130 : decode cX7_step 130 = .ok (.aload_n 0, 1) := by decide +kernel
theorem dX7_step_131 : decode cX7_step 131 = .ok (.invokevirtual 51, 3) := by decide +kernel
theorem dX7_step_134 : decode cX7_step 134 = .ok (.goto 43, 3) := by decide +kernel
theorem dX7_step_137 : decode cX7_step 137 = .ok (.iload_n 1, 1) := by decide +kernel
theorem dX7_step_138 : decode cX7_step 138 = .ok (.bipush 97, 2) := by decide +kernel
theorem dX7_step_140 : decode cX7_step 140 = .ok (.if_icmp .lt 32, 3) := by decide +kernel
theorem dX7_step_143 : decode cX7_step 143 = .ok (.iload_n 1, 1) := by decide +kernel
theorem dX7_step_144 : decode cX7_step 144 = .ok (.bipush 122, 2) := by decide +kernel
theorem dX7_step_146 : decode cX7_step 146 = .ok (.if_icmp .gt 26, 3) := by decide +kernel
theorem dX7_step_149 : decode cX7_step 149 = .ok (.aload_n 0, 1) := by decide +kernel
theorem dX7_step_150 : decode cX7_step 150 = .ok (.aload_n 0, 1) := by decide +kernel
theorem dX7_step_151 : decode cX7_step 151 = .ok (.aload_n 0, 1) := by decide +kernel
theorem dX7_step_152 : decode cX7_step 152 = .ok (.getfield 38, 3) := by decide +kernel
theorem dX7_step_155 : decode cX7_step 155 = .ok (.bipush 97, 2) := by decide +kernel
theorem dX7_step_157 : decode cX7_step 157 = .ok (.bipush 122, 2) := by decide +kernel
theorem dX7_step_159 : decode cX7_step 159 = .ok (.invokevirtual 34, 3) := by decide +kernel
theorem dX7_step_162 : decode cX7_step 162 = .ok (.putfield 28, 3) := by decide +kernel
theorem dX7_step_165 : decode cX7_step 165 = .ok (.aload_n 0, 1) := by decide +kernel
theorem dX7_step_166 : decode cX7_step 166 = .ok (.invokevirtual 54, 3) := by decide +kernel
theorem dX7_step_169 : decode cX7_step 169 = .ok (.goto 8, 3) := by decide +kernel
theorem dX7_step_172 : decode cX7_step 172 = .ok (.aload_n 0, 1) := by decide +kernel
theorem dX7_step_173 : decode cX7_step 173 = .ok (.iconst 4, 1) := by decide +kernel
theorem dX7_step_174 : decode cX7_step 174 = .ok (.putfield 48, 3) := by decide +kernel
theorem dX7_step_177 : decode cX7_step 177 = .ok (.return_, 1) := by decide +kernel
theorem dX7_skip_0 : decode cX7_skip 0 = .ok (.iload_n 1, 1) := by decide +kernel
theorem dX7_skip_1 : decode cX7_skip 1 = .ok (.istore 4, 2) := by decide +kernel
theorem dX7_skip_3 : decode cX7_skip 3 = .ok (.iload 4, 2) := by decide +kernel
theorem dX7_skip_5 : decode cX7_skip 5 = .ok (.aload_n 0, 1) := by decide +kernel
theorem dX7_skip_6 : decode cX7_skip 6 = .ok (.getfield 25, 3) := by decide +kernel
theorem dX7_skip_9 : decode cX7_skip 9 = .ok (.if_icmp .ge 31, 3) := by decide +kernel
theorem dX7_skip_12 : decode cX7_skip 12 = .ok (.aload_n 0, 1) := by decide +kernel
theorem dX7_skip_13 : decode cX7_skip 13 = .ok (.getfield 9, 3) := by decide +kernel
theorem dX7_skip_16 : decode cX7_skip 16 = .ok (.iload 4, 2) := by decide +kernel
theorem dX7_skip_18 : decode cX7_skip 18 = .ok (.baload, 1) := by decide +kernel
theorem dX7_skip_19 : decode cX7_skip 19 = .ok (.iload_n 2, 1) := by decide +kernel
theorem dX7_skip_20 : decode cX7_skip 20 = .ok (.if_icmp .lt 20, 3) := by decide +kernel
theorem dX7_skip_23 : decode cX7_skip 23 = .ok (.aload_n 0, 1) := by decide +kernel
theorem dX7_skip_24 : decode cX7_skip 24 = .ok (.getfield 9, 3) := by decide +kernel
theorem dX7_skip_27 : decode cX7_skip 27 = .ok (.iload 4, 2) := by decide +kernel
theorem dX7_skip_29 : decode cX7_skip 29 = .ok (.baload, 1) := by decide +kernel
theorem dX7_skip_30 : decode cX7_skip 30 = .ok (.iload_n 3, 1) := by decide +kernel
theorem dX7_skip_31 : decode cX7_skip 31 = .ok (.if_icmp .gt 9, 3) := by decide +kernel
theorem dX7_skip_34 : decode cX7_skip 34 = .ok (.iinc 4 1, 3) := by decide +kernel
theorem dX7_skip_37 : decode cX7_skip 37 = .ok (.goto (-34), 3) := by decide +kernel
theorem dX7_skip_40 : decode cX7_skip 40 = .ok (.iload 4, 2) := by decide +kernel
theorem dX7_skip_42 : decode cX7_skip 42 = .ok (.ireturn, 1) := by decide +kernel
theorem dX7_takeWhole_0 : decode cX7_takeWhole 0 = .ok (.aload_n 0, 1) := by decide +kernel
theorem dX7_takeWhole_1 : decode cX7_takeWhole 1 = .ok (.aload_n 0, 1) := by decide +kernel
theorem dX7_takeWhole_2 : decode cX7_takeWhole 2 = .ok (.getfield 28, 3) := by decide +kernel
theorem dX7_takeWhole_5 : decode cX7_takeWhole 5 = .ok (.aload_n 0, 1) := by decide +kernel
theorem dX7_takeWhole_6 : decode cX7_takeWhole 6 = .ok (.getfield 38, 3) := by decide +kernel
theorem dX7_takeWhole_9 : decode cX7_takeWhole 9 = .ok (.isub, 1) := by decide +kernel
theorem dX7_takeWhole_10 : decode cX7_takeWhole 10 = .ok (.iconst 3, 1) := by decide +kernel
theorem dX7_takeWhole_11 : decode cX7_takeWhole 11 = .ok (.if_icmp .gt 7, 3) := by decide +kernel
theorem dX7_takeWhole_14 : decode cX7_takeWhole 14 = .ok (.iconst 2, 1) := by decide +kernel
theorem dX7_takeWhole_15 : decode cX7_takeWhole 15 = .ok (.goto 4, 3) := by decide +kernel
theorem dX7_takeWhole_18 : decode cX7_takeWhole 18 = .ok (.iconst 4, 1) := by decide +kernel
theorem dX7_takeWhole_19 : decode cX7_takeWhole 19 = .ok (.putfield 48, 3) := by decide +kernel
theorem dX7_takeWhole_22 : decode cX7_takeWhole 22 = .ok (.aload_n 0, 1) := by decide +kernel
theorem dX7_takeWhole_23 : decode cX7_takeWhole 23 = .ok (.getfield 38, 3) := by decide +kernel
theorem dX7_takeWhole_26 : decode cX7_takeWhole 26 = .ok (.istore_n 1, 1) := by decide +kernel
theorem dX7_takeWhole_27 : decode cX7_takeWhole 27 = .ok (.iload_n 1, 1) := by decide +kernel
theorem dX7_takeWhole_28 : decode cX7_takeWhole 28 = .ok (.aload_n 0, 1) := by decide +kernel
theorem dX7_takeWhole_29 : decode cX7_takeWhole 29 = .ok (.getfield 28, 3) := by decide +kernel
theorem dX7_takeWhole_32 : decode cX7_takeWhole 32 = .ok (.if_icmp .ge 38, 3) := by decide +kernel
theorem dX7_takeWhole_35 : decode cX7_takeWhole 35 = .ok (.aload_n 0, 1) := by decide +kernel
theorem dX7_takeWhole_36 : decode cX7_takeWhole 36 = .ok (.getfield 48, 3) := by decide +kernel
theorem dX7_takeWhole_39 : decode cX7_takeWhole 39 = .ok (.iconst 2, 1) := by decide +kernel
theorem dX7_takeWhole_40 : decode cX7_takeWhole 40 = .ok (.if_icmp .ne 30, 3) := by decide +kernel
theorem dX7_takeWhole_43 : decode cX7_takeWhole 43 = .ok (.aload_n 0, 1) := by decide +kernel
theorem dX7_takeWhole_44 : decode cX7_takeWhole 44 = .ok (.aload_n 0, 1) := by decide +kernel
theorem dX7_takeWhole_45 : decode cX7_takeWhole 45 = .ok (.getfield 41, 3) := by decide +kernel
theorem dX7_takeWhole_48 : decode cX7_takeWhole 48 = .ok (.bipush 10, 2) := by decide +kernel
theorem dX7_takeWhole_50 : decode cX7_takeWhole 50 = .ok (.imul, 1) := by decide +kernel
theorem dX7_takeWhole_51 : decode cX7_takeWhole 51 = .ok (.aload_n 0, 1) := by decide +kernel
theorem dX7_takeWhole_52 : decode cX7_takeWhole 52 = .ok (.getfield 9, 3) := by decide +kernel
theorem dX7_takeWhole_55 : decode cX7_takeWhole 55 = .ok (.iload_n 1, 1) := by decide +kernel
theorem dX7_takeWhole_56 : decode cX7_takeWhole 56 = .ok (.baload, 1) := by decide +kernel
theorem dX7_takeWhole_57 : decode cX7_takeWhole 57 = .ok (.bipush 48, 2) := by decide +kernel
theorem dX7_takeWhole_59 : decode cX7_takeWhole 59 = .ok (.isub, 1) := by decide +kernel
theorem dX7_takeWhole_60 : decode cX7_takeWhole 60 = .ok (.iadd, 1) := by decide +kernel
theorem dX7_takeWhole_61 : decode cX7_takeWhole 61 = .ok (.putfield 41, 3) := by decide +kernel
theorem dX7_takeWhole_64 : decode cX7_takeWhole 64 = .ok (.iinc 1 1, 3) := by decide +kernel
theorem dX7_takeWhole_67 : decode cX7_takeWhole 67 = .ok (.goto (-40), 3) := by decide +kernel
theorem dX7_takeWhole_70 : decode cX7_takeWhole 70 = .ok (.return_, 1) := by decide +kernel
theorem dX7_takeWord_0 : decode cX7_takeWord 0 = .ok (.aload_n 0, 1) := by decide +kernel
theorem dX7_takeWord_1 : decode cX7_takeWord 1 = .ok (.aload_n 0, 1) := by decide +kernel
theorem dX7_takeWord_2 : decode cX7_takeWord 2 = .ok (.getfield 28, 3) := by decide +kernel
theorem dX7_takeWord_5 : decode cX7_takeWord 5 = .ok (.aload_n 0, 1) := by decide +kernel
theorem dX7_takeWord_6 : decode cX7_takeWord 6 = .ok (.getfield 38, 3) := by decide +kernel
theorem dX7_takeWord_9 : decode cX7_takeWord 9 = .ok (.isub, 1) := by decide +kernel
theorem dX7_takeWord_10 : decode cX7_takeWord 10 = .ok (.bipush 8, 2) := by decide +kernel
theorem dX7_takeWord_12 : decode cX7_takeWord 12 = .ok (.if_icmp .gt 7, 3) := by decide +kernel
theorem dX7_takeWord_15 : decode cX7_takeWord 15 = .ok (.iconst 1, 1) := by decide +kernel
theorem dX7_takeWord_16 : decode cX7_takeWord 16 = .ok (.goto 4, 3) := by decide +kernel
theorem dX7_takeWord_19 : decode cX7_takeWord 19 = .ok (.iconst 4, 1) := by decide +kernel
theorem dX7_takeWord_20 : decode cX7_takeWord 20 = .ok (.putfield 48, 3) := by decide +kernel
theorem dX7_takeWord_23 : decode cX7_takeWord 23 = .ok (.aload_n 0, 1) := by decide +kernel
theorem dX7_takeWord_24 : decode cX7_takeWord 24 = .ok (.getfield 38, 3) := by decide +kernel
theorem dX7_takeWord_27 : decode cX7_takeWord 27 = .ok (.istore_n 1, 1) := by decide +kernel
theorem dX7_takeWord_28 : decode cX7_takeWord 28 = .ok (.iload_n 1, 1) := by decide +kernel
theorem dX7_takeWord_29 : decode cX7_takeWord 29 = .ok (.aload_n 0, 1) := by decide +kernel
theorem dX7_takeWord_30 : decode cX7_takeWord 30 = .ok (.getfield 28, 3) := by decide +kernel
theorem dX7_takeWord_33 : decode cX7_takeWord 33 = .ok (.if_icmp .ge 36, 3) := by decide +kernel
theorem dX7_takeWord_36 : decode cX7_takeWord 36 = .ok (.aload_n 0, 1) := by decide +kernel
theorem dX7_takeWord_37 : decode cX7_takeWord 37 = .ok (.getfield 48, 3) := by decide +kernel
theorem dX7_takeWord_40 : decode cX7_takeWord 40 = .ok (.iconst 1, 1) := by decide +kernel
theorem dX7_takeWord_41 : decode cX7_takeWord 41 = .ok (.if_icmp .ne 28, 3) := by decide +kernel
theorem dX7_takeWord_44 : decode cX7_takeWord 44 = .ok (.aload_n 0, 1) := by decide +kernel
theorem dX7_takeWord_45 : decode cX7_takeWord 45 = .ok (.aload_n 0, 1) := by decide +kernel
theorem dX7_takeWord_46 : decode cX7_takeWord 46 = .ok (.getfield 44, 3) := by decide +kernel
theorem dX7_takeWord_49 : decode cX7_takeWord 49 = .ok (.bipush 8, 2) := by decide +kernel
theorem dX7_takeWord_51 : decode cX7_takeWord 51 = .ok (.lshl, 1) := by decide +kernel
theorem dX7_takeWord_52 : decode cX7_takeWord 52 = .ok (.aload_n 0, 1) := by decide +kernel
theorem dX7_takeWord_53 : decode cX7_takeWord 53 = .ok (.getfield 9, 3) := by decide +kernel
theorem dX7_takeWord_56 : decode cX7_takeWord 56 = .ok (.iload_n 1, 1) := by decide +kernel
theorem dX7_takeWord_57 : decode cX7_takeWord 57 = .ok (.baload, 1) := by decide +kernel
theorem dX7_takeWord_58 : decode cX7_takeWord 58 = .ok (.i2l, 1) := by decide +kernel
theorem dX7_takeWord_59 : decode cX7_takeWord 59 = .ok (.lor, 1) := by decide +kernel
theorem dX7_takeWord_60 : decode cX7_takeWord 60 = .ok (.putfield 44, 3) := by decide +kernel
theorem dX7_takeWord_63 : decode cX7_takeWord 63 = .ok (.iinc 1 1, 3) := by decide +kernel
theorem dX7_takeWord_66 : decode cX7_takeWord 66 = .ok (.goto (-38), 3) := by decide +kernel
theorem dX7_takeWord_69 : decode cX7_takeWord 69 = .ok (.return_, 1) := by decide +kernel
theorem dX8_init_0 : decode cX8_init 0 = .ok (.aload_n 0, 1) := by decide +kernel
theorem dX8_init_1 : decode cX8_init 1 = .ok (.invokespecial 3, 3) := by decide +kernel
theorem dX8_init_4 : decode cX8_init 4 = .ok (.aload_n 0, 1) := by decide +kernel
theorem dX8_init_5 : decode cX8_init 5 = .ok (.iconst 5, 1) := by decide +kernel
theorem dX8_init_6 : decode cX8_init 6 = .ok (.newarray .int, 2) := by decide +kernel
theorem dX8_init_8 : decode cX8_init 8 = .ok (.putfield 9, 3) := by decide +kernel
theorem dX8_init_11 : decode cX8_init 11 = .ok (.aload_n 0, 1) := by decide +kernel
theorem dX8_init_12 : decode cX8_init 12 = .ok (.bipush 10, 2) := by decide +kernel
theorem dX8_init_14 : decode cX8_init 14 = .ok (.newarray .int, 2) := by decide +kernel
theorem dX8_init_16 : decode cX8_init 16 = .ok (.putfield 15, 3) := by decide +kernel
theorem dX8_init_19 : decode cX8_init 19 = .ok (.aload_n 0, 1) := by decide +kernel
theorem dX8_init_20 : decode cX8_init 20 = .ok (.bipush 10, 2) := by decide +kernel
theorem dX8_init_22 : decode cX8_init 22 = .ok (.newarray .int, 2) := by decide +kernel
theorem dX8_init_24 : decode cX8_init 24 = .ok (.putfield 18, 3) := by decide +kernel
theorem dX8_init_27 : decode cX8_init 27 = .ok (.aload_n 0, 1) := by decide +kernel
theorem dX8_init_28 : decode cX8_init 28 = .ok (.bipush 10, 2) := by decide +kernel
theorem dX8_init_30 : decode cX8_init 30 = .ok (.newarray .int, 2) := by decide +kernel
theorem dX8_init_32 : decode cX8_init 32 = .ok (.putfield 21, 3) := by decide +kernel
theorem dX8_init_35 : decode cX8_init 35 = .ok (.aload_n 0, 1) := by decide +kernel
theorem dX8_init_36 : decode cX8_init 36 = .ok (.new 24, 3) := by decide +kernel
theorem dX8_init_39 : decode cX8_init 39 = .ok (.dup, 1) := by decide +kernel
theorem dX8_init_40 : decode cX8_init 40 = .ok (.invokespecial 26, 3) := by decide +kernel
theorem dX8_init_43 : decode cX8_init 43 = .ok (.putfield 27, 3) := by decide +kernel
theorem dX8_init_46 : decode cX8_init 46 = .ok (.aload_n 0, 1) := by decide +kernel
theorem dX8_init_47 : decode cX8_init 47 = .ok (.aload_n 1, 1) := by decide +kernel
theorem dX8_init_48 : decode cX8_init 48 = .ok (.putfield 31, 3) := by decide +kernel
theorem dX8_init_51 : decode cX8_init 51 = .ok (.aload_n 0, 1) := by decide +kernel
theorem dX8_init_52 : decode cX8_init 52 = .ok (.aload_n 2, 1) := by decide +kernel
theorem dX8_init_53 : decode cX8_init 53 = .ok (.putfield 35, 3) := by decide +kernel
theorem dX8_init_56 : decode cX8_init 56 = .ok (.return_, 1) := by decide +kernel
theorem dX8_lay_0 : decode cX8_lay 0 = .ok (.aload_n 0, 1) := by decide +kernel
theorem dX8_lay_1 : decode cX8_lay 1 = .ok (.getfield 35, 3) := by decide +kernel
theorem dX8_lay_4 : decode cX8_lay 4 = .ok (.getfield 39, 3) := by decide +kernel
theorem dX8_lay_7 : decode cX8_lay 7 = .ok (.iconst 0, 1) := by decide +kernel
theorem dX8_lay_8 : decode cX8_lay 8 = .ok (.aload_n 0, 1) := by decide +kernel
theorem dX8_lay_9 : decode cX8_lay 9 = .ok (.getfield 9, 3) := by decide +kernel
theorem dX8_lay_12 : decode cX8_lay 12 = .ok (.iconst 0, 1) := by decide +kernel
theorem dX8_lay_13 : decode cX8_lay 13 = .ok (.iconst 5, 1) := by decide +kernel
theorem dX8_lay_14 : decode cX8_lay 14 = .ok (.invokestatic 42, 3) := by decide +kernel
theorem dX8_lay_17 : decode cX8_lay 17 = .ok (.iconst 0, 1) := by decide +kernel
theorem dX8_lay_18 : decode cX8_lay 18 = .ok (.istore_n 1, 1) := by decide +kernel
theorem dX8_lay_19 : decode cX8_lay 19 = .ok (.iload_n 1, 1) := by decide +kernel
theorem dX8_lay_20 : decode cX8_lay 20 = .ok (.aload_n 0, 1) := by decide +kernel
theorem dX8_lay_21 : decode cX8_lay 21 = .ok (.getfield 35, 3) := by decide +kernel
theorem dX8_lay_24 : decode cX8_lay 24 = .ok (.getfield 48, 3) := by decide +kernel
theorem dX8_lay_27 : decode cX8_lay 27 = .ok (.if_icmp .ge 23, 3) := by decide +kernel
theorem dX8_lay_30 : decode cX8_lay 30 = .ok (.aload_n 0, 1) := by decide +kernel
theorem dX8_lay_31 : decode cX8_lay 31 = .ok (.getfield 15, 3) := by decide +kernel
theorem dX8_lay_34 : decode cX8_lay 34 = .ok (.iload_n 1, 1) := by decide +kernel
theorem dX8_lay_35 : decode cX8_lay 35 = .ok (.aload_n 0, 1) := by decide +kernel
theorem dX8_lay_36 : decode cX8_lay 36 = .ok (.getfield 35, 3) := by decide +kernel
theorem dX8_lay_39 : decode cX8_lay 39 = .ok (.iload_n 1, 1) := by decide +kernel
theorem dX8_lay_40 : decode cX8_lay 40 = .ok (.invokevirtual 52, 3) := by decide +kernel
theorem dX8_lay_43 : decode cX8_lay 43 = .ok (.iastore, 1) := by decide +kernel
theorem dX8_lay_44 : decode cX8_lay 44 = .ok (.iinc 1 1, 3) := by decide +kernel
theorem dX8_lay_47 : decode cX8_lay 47 = .ok (.goto (-28), 3) := by decide +kernel
theorem dX8_lay_50 : decode cX8_lay 50 = .ok (.aload_n 0, 1) := by decide +kernel
theorem dX8_lay_51 : decode cX8_lay 51 = .ok (.aload_n 0, 1) := by decide +kernel
theorem dX8_lay_52 : decode cX8_lay 52 = .ok (.getfield 31, 3) := by decide +kernel
theorem dX8_lay_55 : decode cX8_lay 55 = .ok (.getfield 55, 3) := by decide +kernel
theorem dX8_lay_58 : decode cX8_lay 58 = .ok (.putfield 60, 3) := by decide +kernel
theorem dX8_lay_61 : decode cX8_lay 61 = .ok (.return_, 1) := by decide +kernel
theorem dX8_grow_0 : decode cX8_grow 0 = .ok (.iconst 0, 1) := by decide +kernel
theorem dX8_grow_1 : decode cX8_grow 1 = .ok (.istore_n 2, 1) := by decide +kernel
theorem dX8_grow_2 : decode cX8_grow 2 = .ok (.iload_n 2, 1) := by decide +kernel
theorem dX8_grow_3 : decode cX8_grow 3 = .ok (.aload_n 0, 1) := by decide +kernel
theorem dX8_grow_4 : decode cX8_grow 4 = .ok (.getfield 35, 3) := by decide +kernel
theorem dX8_grow_7 : decode cX8_grow 7 = .ok (.getfield 48, 3) := by decide +kernel
theorem dX8_grow_10 : decode cX8_grow 10 = .ok (.if_icmp .ge 24, 3) := by decide +kernel
theorem dX8_grow_13 : decode cX8_grow 13 = .ok (.aload_n 0, 1) := by decide +kernel
theorem dX8_grow_14 : decode cX8_grow 14 = .ok (.getfield 15, 3) := by decide +kernel
theorem dX8_grow_17 : decode cX8_grow 17 = .ok (.iload_n 2, 1) := by decide +kernel
theorem dX8_grow_18 : decode cX8_grow 18 = .ok (.aload_n 0, 1) := by decide +kernel
theorem dX8_grow_19 : decode cX8_grow 19 = .ok (.getfield 35, 3) := by decide +kernel
theorem dX8_grow_22 : decode cX8_grow 22 = .ok (.iload_n 2, 1) := by decide +kernel
theorem dX8_grow_23 : decode cX8_grow 23 = .ok (.iload_n 1, 1) := by decide +kernel
theorem dX8_grow_24 : decode cX8_grow 24 = .ok (.invokevirtual 61, 3) := by decide +kernel
theorem dX8_grow_27 : decode cX8_grow 27 = .ok (.iastore, 1) := by decide +kernel
theorem dX8_grow_28 : decode cX8_grow 28 = .ok (.iinc 2 1, 3) := by decide +kernel
theorem dX8_grow_31 : decode cX8_grow 31 = .ok (.goto (-29), 3) := by decide +kernel
theorem dX8_grow_34 : decode cX8_grow 34 = .ok (.return_, 1) := by decide +kernel
theorem dX8_settle_0 : decode cX8_settle 0 = .ok (.aload_n 0, 1) := by decide +kernel
theorem dX8_settle_1 : decode cX8_settle 1 = .ok (.invokevirtual 65, 3) := by decide +kernel
theorem dX8_settle_4 : decode cX8_settle 4 = .ok (.aload_n 0, 1) := by decide +kernel
theorem dX8_settle_5 : decode cX8_settle 5 = .ok (.getfield 27, 3) := by decide +kernel
theorem dX8_settle_8 : decode cX8_settle 8 = .ok (.aload_n 0, 1) := by decide +kernel
theorem dX8_settle_9 : decode cX8_settle 9 = .ok (.getfield 68, 3) := by decide +kernel
theorem dX8_settle_12 : decode cX8_settle 12 = .ok (.aload_n 0, 1) := by decide +kernel
theorem dX8_settle_13 : decode cX8_settle 13 = .ok (.getfield 18, 3) := by decide +kernel
theorem dX8_settle_16 : decode cX8_settle 16 = .ok (.aload_n 0, 1) := by decide +kernel
theorem dX8_settle_17 : decode cX8_settle 17 = .ok (.getfield 35, 3) := by decide +kernel
theorem dX8_settle_20 : decode cX8_settle 20 = .ok (.getfield 48, 3) := by decide +kernel
theorem dX8_settle_23 : decode cX8_settle 23 = .ok (.invokevirtual 71, 3) := by decide +kernel
theorem dX8_settle_26 : decode cX8_settle 26 = .ok (.aload_n 0, 1) := by decide +kernel
theorem dX8_settle_27 : decode cX8_settle 27 = .ok (.iconst 0, 1) := by decide +kernel
theorem dX8_settle_28 : decode cX8_settle 28 = .ok (.putfield 75, 3) := by decide +kernel
theorem dX8_settle_31 : decode cX8_settle 31 = .ok (.aload_n 0, 1) := by decide +kernel
theorem dX8_settle_32 : decode cX8_settle 32 = .ok (.iconst 0, 1) := by decide +kernel
theorem dX8_settle_33 : decode cX8_settle 33 = .ok (.putfield 78, 3) := by decide +kernel
theorem dX8_settle_36 : decode cX8_settle 36 = .ok (.iconst 0, 1) := by decide +kernel
theorem dX8_settle_37 : decode cX8_settle 37 = .ok (.istore_n 1, 1) := by decide +kernel
theorem dX8_settle_38 : decode cX8_settle 38 = .ok (.iconst 0, 1) := by decide +kernel
theorem dX8_settle_39 : decode cX8_settle 39 = .ok (.istore_n 2, 1) := by decide +kernel
theorem dX8_settle_40 : decode cX8_settle 40 = .ok (.iload_n 2, 1) := by decide +kernel
theorem dX8_settle_41 : decode cX8_settle 41 = .ok (.aload_n 0, 1) := by decide +kernel
theorem dX8_settle_42 : decode cX8_settle 42 = .ok (.getfield 27, 3) := by decide +kernel
theorem dX8_settle_45 : decode cX8_settle 45 = .ok (.getfield 81, 3) := by decide +kernel
theorem dX8_settle_48 : decode cX8_settle 48 = .ok (.if_icmp .ge 83, 3) := by decide +kernel
theorem dX8_settle_51 : decode cX8_settle 51 = .ok (.aload_n 0, 1) := by decide +kernel
theorem dX8_settle_52 : decode cX8_settle 52 = .ok (.getfield 27, 3) := by decide +kernel
theorem dX8_settle_55 : decode cX8_settle 55 = .ok (.getfield 84, 3) := by decide +kernel
theorem dX8_settle_58 : decode cX8_settle 58 = .ok (.iload_n 2, 1) := by decide +kernel
theorem dX8_settle_59 : decode cX8_settle 59 = .ok (.iaload, 1) := by decide +kernel
theorem dX8_settle_60 : decode cX8_settle 60 = .ok (.istore_n 3, 1) := by decide +kernel
theorem dX8_settle_61 : decode cX8_settle 61 = .ok (.iload_n 3, 1) := by decide +kernel
theorem dX8_settle_62 : decode cX8_settle 62 = .ok (.invokestatic 87, 3) := by decide +kernel
theorem dX8_settle_65 : decode cX8_settle 65 = .ok (.istore 4, 2) := by decide +kernel
theorem dX8_settle_67 : decode cX8_settle 67 = .ok (.iload 4, 2) := by decide +kernel
theorem dX8_settle_69 : decode cX8_settle 69 = .ok (.iload_n 1, 1) := by decide +kernel
theorem dX8_settle_70 : decode cX8_settle 70 = .ok (.if_icmp .ge 10, 3) := by decide +kernel
theorem dX8_settle_73 : decode cX8_settle 73 = .ok (.aload_n 0, 1) := by decide +kernel
theorem dX8_settle_74 : decode cX8_settle 74 = .ok (.getfield 78, 3) := by decide +kernel
theorem dX8_settle_77 : decode cX8_settle 77 = .ok (.goto 11, 3) := by decide +kernel
theorem dX8_settle_80 : decode cX8_settle 80 = .ok (.iload_n 3, 1) := by decide +kernel
theorem dX8_settle_81 : decode cX8_settle 81 = .ok (.aload_n 0, 1) := by decide +kernel
theorem dX8_settle_82 : decode cX8_settle 82 = .ok (.getfield 21, 3) := by decide +kernel
theorem dX8_settle_85 : decode cX8_settle 85 = .ok (.invokestatic 92, 3) := by decide +kernel
theorem dX8_settle_88 : decode cX8_settle 88 = .ok (.istore 5, 2) := by decide +kernel
theorem dX8_settle_90 : decode cX8_settle 90 = .ok (.iload 4, 2) := by decide +kernel
theorem dX8_settle_92 : decode cX8_settle 92 = .ok (.iload_n 1, 1) := by decide +kernel
theorem dX8_settle_93 : decode cX8_settle 93 = .ok (.if_icmp .gt 18, 3) := by decide +kernel
theorem dX8_settle_96 : decode cX8_settle 96 = .ok (.iload 4, 2) := by decide +kernel
theorem dX8_settle_98 : decode cX8_settle 98 = .ok (.iload_n 1, 1) := by decide +kernel
theorem dX8_settle_99 : decode cX8_settle 99 = .ok (.if_icmp .ne 26, 3) := by decide +kernel
theorem dX8_settle_102 : decode cX8_settle 102 = .ok (.iload 5, 2) := by decide +kernel
theorem dX8_settle_104 : decode cX8_settle 104 = .ok (.aload_n 0, 1) := by decide +kernel
theorem dX8_settle_105 : decode cX8_settle 105 = .ok (.getfield 78, 3) := by decide +kernel
theorem dX8_settle_108 : decode cX8_settle 108 = .ok (.if_icmp .ge 17, 3) := by decide +kernel
theorem dX8_settle_111 : decode cX8_settle 111 = .ok (.iload 4, 2) := by decide +kernel
theorem dX8_settle_113 : decode cX8_settle 113 = .ok (.istore_n 1, 1) := by decide +kernel
theorem dX8_settle_114 : decode cX8_settle 114 = .ok (.aload_n 0, 1) := by decide +kernel
theorem dX8_settle_115 : decode cX8_settle 115 = .ok (.iload_n 3, 1) := by decide +kernel
theorem dX8_settle_116 : decode cX8_settle 116 = .ok (.putfield 75, 3) := by decide +kernel
theorem dX8_settle_119 : decode cX8_settle 119 = .ok (.aload_n 0, 1) := by decide +kernel
theorem dX8_settle_120 : decode cX8_settle 120 = .ok (.iload 5, 2) := by decide +kernel
theorem dX8_settle_122 : decode cX8_settle 122 = .ok (.putfield 78, 3) := by decide +kernel
theorem dX8_settle_125 : decode cX8_settle 125 = .ok (.iinc 2 1, 3) := by decide +kernel
theorem dX8_settle_128 : decode cX8_settle 128 = .ok (.goto (-88), 3) := by decide +kernel
theorem dX8_settle_131 : decode cX8_settle 131 = .ok (.return_, 1) := by decide +kernel
theorem dX8_weigh_0 : decode cX8_weigh 0 = .ok (.aload_n 0, 1) := by decide +kernel
theorem dX8_weigh_1 : decode cX8_weigh 1 = .ok (.iconst 0, 1) := by decide +kernel
theorem dX8_weigh_2 : decode cX8_weigh 2 = .ok (.putfield 68, 3) := by decide +kernel
theorem dX8_weigh_5 : decode cX8_weigh 5 = .ok (.iconst 0, 1) := by decide +kernel
theorem dX8_weigh_6 : decode cX8_weigh 6 = .ok (.istore_n 1, 1) := by decide +kernel
theorem dX8_weigh_7 : decode cX8_weigh 7 = .ok (.iload_n 1, 1) := by decide +kernel
theorem dX8_weigh_8 : decode cX8_weigh 8 = .ok (.aload_n 0, 1) := by decide +kernel
theorem dX8_weigh_9 : decode cX8_weigh 9 = .ok (.getfield 35, 3) := by decide +kernel
theorem dX8_weigh_12 : decode cX8_weigh 12 = .ok (.getfield 48, 3) := by decide +kernel
theorem dX8_weigh_15 : decode cX8_weigh 15 = .ok (.if_icmp .ge 114, 3) := by decide +kernel
theorem dX8_weigh_18 : decode cX8_weigh 18 = .ok (.aload_n 0, 1) := by decide +kernel
theorem dX8_weigh_19 : decode cX8_weigh 19 = .ok (.getfield 9, 3) := by decide +kernel
theorem dX8_weigh_22 : decode cX8_weigh 22 = .ok (.aload_n 0, 1) := by decide +kernel
theorem dX8_weigh_23 : decode cX8_weigh 23 = .ok (.getfield 35, 3) := by decide +kernel
theorem dX8_weigh_26 : decode cX8_weigh 26 = .ok (.getfield 96, 3) := by decide +kernel
theorem dX8_weigh_29 : decode cX8_weigh 29 = .ok (.iload_n 1, 1) := by decide +kernel
theorem dX8_weigh_30 : decode cX8_weigh 30 = .ok (.iaload, 1) := by decide +kernel
theorem dX8_weigh_31 : decode cX8_weigh 31 = .ok (.iaload, 1) := by decide +kernel
theorem dX8_weigh_32 : decode cX8_weigh 32 = .ok (.istore_n 2, 1) := by decide +kernel
theorem dX8_weigh_33 : decode cX8_weigh 33 = .ok (.aload_n 0, 1) := by decide +kernel
theorem dX8_weigh_34 : decode cX8_weigh 34 = .ok (.getfield 9, 3) := by decide +kernel
theorem dX8_weigh_37 : decode cX8_weigh 37 = .ok (.aload_n 0, 1) := by decide +kernel
theorem dX8_weigh_38 : decode cX8_weigh 38 = .ok (.getfield 35, 3) := by decide +kernel
theorem dX8_weigh_41 : decode cX8_weigh 41 = .ok (.getfield 99, 3) := by decide +kernel
theorem dX8_weigh_44 : decode cX8_weigh 44 = .ok (.iload_n 1, 1) := by decide +kernel
theorem dX8_weigh_45 : decode cX8_weigh 45 = .ok (.iaload, 1) := by decide +kernel
theorem dX8_weigh_46 : decode cX8_weigh 46 = .ok (.iaload, 1) := by decide +kernel
theorem dX8_weigh_47 : decode cX8_weigh 47 = .ok (.istore_n 3, 1) := by decide +kernel
theorem dX8_weigh_48 : decode cX8_weigh 48 = .ok (.aload_n 0, 1) := by decide +kernel
theorem dX8_weigh_49 : decode cX8_weigh 49 = .ok (.getfield 18, 3) := by decide +kernel
theorem dX8_weigh_52 : decode cX8_weigh 52 = .ok (.iload_n 1, 1) := by decide +kernel
theorem dX8_weigh_53 : decode cX8_weigh 53 = .ok (.aload_n 0, 1) := by decide +kernel
theorem dX8_weigh_54 : decode cX8_weigh 54 = .ok (.getfield 35, 3) := by decide +kernel
theorem dX8_weigh_57 : decode cX8_weigh 57 = .ok (.iload_n 1, 1) := by decide +kernel
theorem dX8_weigh_58 : decode cX8_weigh 58 = .ok (.invokevirtual 102, 3) := by decide +kernel
theorem dX8_weigh_61 : decode cX8_weigh 61 = .ok (.iastore, 1) := by decide +kernel
theorem dX8_weigh_62 : decode cX8_weigh 62 = .ok (.aload_n 0, 1) := by decide +kernel
theorem dX8_weigh_63 : decode cX8_weigh 63 = .ok (.getfield 21, 3) := by decide +kernel
theorem dX8_weigh_66 : decode cX8_weigh 66 = .ok (.iload_n 1, 1) := by decide +kernel
theorem dX8_weigh_67 : decode cX8_weigh 67 = .ok (.iload_n 2, 1) := by decide +kernel
theorem dX8_weigh_68 : decode cX8_weigh 68 = .ok (.iload_n 3, 1) := by decide +kernel
theorem dX8_weigh_69 : decode cX8_weigh 69 = .ok (.aload_n 0, 1) := by decide +kernel
theorem dX8_weigh_70 : decode cX8_weigh 70 = .ok (.getfield 60, 3) := by decide +kernel
theorem dX8_weigh_73 : decode cX8_weigh 73 = .ok (.invokestatic 104, 3) := by decide +kernel
theorem dX8_weigh_76 : decode cX8_weigh 76 = .ok (.iastore, 1) := by decide +kernel
theorem dX8_weigh_77 : decode cX8_weigh 77 = .ok (.aload_n 0, 1) := by decide +kernel
theorem dX8_weigh_78 : decode cX8_weigh 78 = .ok (.getfield 35, 3) := by decide +kernel
theorem dX8_weigh_81 : decode cX8_weigh 81 = .ok (.getfield 108, 3) := by decide +kernel
theorem dX8_weigh_84 : decode cX8_weigh 84 = .ok (.iload_n 1, 1) := by decide +kernel
theorem dX8_weigh_85 : decode cX8_weigh 85 = .ok (.iaload, 1) := by decide +kernel
theorem dX8_weigh_86 : decode cX8_weigh 86 = .ok (.aload_n 0, 1) := by decide +kernel
theorem dX8_weigh_87 : decode cX8_weigh 87 = .ok (.getfield 15, 3) := by decide +kernel
theorem dX8_weigh_90 : decode cX8_weigh 90 = .ok (.iload_n 1, 1) := by decide +kernel
theorem dX8_weigh_91 : decode cX8_weigh 91 = .ok (.iaload, 1) := by decide +kernel
theorem dX8_weigh_92 : decode cX8_weigh 92 = .ok (.iload_n 2, 1) := by decide +kernel
theorem dX8_weigh_93 : decode cX8_weigh 93 = .ok (.iload_n 3, 1) := by decide +kernel
theorem dX8_weigh_94 : decode cX8_weigh 94 = .ok (.isub, 1) := by decide +kernel
theorem dX8_weigh_95 : decode cX8_weigh 95 = .ok (.invokestatic 111, 3) := by decide +kernel
theorem dX8_weigh_98 : decode cX8_weigh 98 = .ok (.aload_n 0, 1) := by decide +kernel
theorem dX8_weigh_99 : decode cX8_weigh 99 = .ok (.getfield 31, 3) := by decide +kernel
theorem dX8_weigh_102 : decode cX8_weigh 102 = .ok (.getfield 116, 3) := by decide +kernel
theorem dX8_weigh_105 : decode cX8_weigh 105 = .ok (.invokestatic 119, 3) := by decide +kernel
theorem dX8_weigh_108 : decode cX8_weigh 108 = .ok (.ifCond .eq 15, 3) := by decide +kernel
theorem dX8_weigh_111 : decode cX8_weigh 111 = .ok (.aload_n 0, 1) := by decide +kernel
theorem dX8_weigh_112 : decode cX8_weigh 112 = .ok (.dup, 1) := by decide +kernel
theorem dX8_weigh_113 : decode cX8_weigh 113 = .ok (.getfield 68, 3) := by decide +kernel
theorem dX8_weigh_116 : decode cX8_weigh 116 = .ok (.iconst 1, 1) := by decide +kernel
theorem dX8_weigh_117 : decode cX8_weigh 117 = .ok (.iload_n 1, 1) := by decide +kernel
theorem dX8_weigh_118 : decode cX8_weigh 118 = .ok (.ishl, 1) := by decide +kernel
theorem dX8_weigh_119 : decode cX8_weigh 119 = .ok (.ior, 1) := by decide +kernel
theorem dX8_weigh_120 : decode cX8_weigh 120 = .ok (.putfield 68, 3) := by decide +kernel
theorem dX8_weigh_123 : decode cX8_weigh 123 = .ok (.iinc 1 1, 3) := by decide +kernel
theorem dX8_weigh_126 : decode cX8_weigh 126 = .ok (.goto (-119), 3) := by decide +kernel
theorem dX8_weigh_129 : decode cX8_weigh 129 = .ok (.return_, 1) := by decide +kernel
theorem dX8_fedCount_0 : decode cX8_fedCount 0 = .ok (.iconst 2, 1) := by decide +kernel
theorem dX8_fedCount_1 : decode cX8_fedCount 1 = .ok (.aload_n 0, 1) := by decide +kernel
theorem dX8_fedCount_2 : decode cX8_fedCount 2 = .ok (.getfield 75, 3) := by decide +kernel
theorem dX8_fedCount_5 : decode cX8_fedCount 5 = .ok (.invokestatic 87, 3) := by decide +kernel
theorem dX8_fedCount_8 : decode cX8_fedCount 8 = .ok (.imul, 1) := by decide +kernel
theorem dX8_fedCount_9 : decode cX8_fedCount 9 = .ok (.ireturn, 1) := by decide +kernel
theorem dX8_held_0 : decode cX8_held 0 = .ok (.iconst 0, 1) := by decide +kernel
theorem dX8_held_1 : decode cX8_held 1 = .ok (.istore_n 3, 1) := by decide +kernel
theorem dX8_held_2 : decode cX8_held 2 = .ok (.iload_n 3, 1) := by decide +kernel
theorem dX8_held_3 : decode cX8_held 3 = .ok (.aload_n 0, 1) := by decide +kernel
theorem dX8_held_4 : decode cX8_held 4 = .ok (.getfield 35, 3) := by decide +kernel
theorem dX8_held_7 : decode cX8_held 7 = .ok (.getfield 48, 3) := by decide +kernel
theorem dX8_held_10 : decode cX8_held 10 = .ok (.if_icmp .ge 31, 3) := by decide +kernel
theorem dX8_held_13 : decode cX8_held 13 = .ok (.iload_n 2, 1) := by decide +kernel
theorem dX8_held_14 : decode cX8_held 14 = .ok (.iload_n 3, 1) := by decide +kernel
theorem dX8_held_15 : decode cX8_held 15 = .ok (.invokestatic 123, 3) := by decide +kernel
theorem dX8_held_18 : decode cX8_held 18 = .ok (.ifCond .eq 17, 3) := by decide +kernel
theorem dX8_held_21 : decode cX8_held 21 = .ok (.aload_n 0, 1) := by decide +kernel
theorem dX8_held_22 : decode cX8_held 22 = .ok (.getfield 35, 3) := by decide +kernel
theorem dX8_held_25 : decode cX8_held 25 = .ok (.iload_n 3, 1) := by decide +kernel
theorem dX8_held_26 : decode cX8_held 26 = .ok (.iload_n 1, 1) := by decide +kernel
theorem dX8_held_27 : decode cX8_held 27 = .ok (.invokevirtual 127, 3) := by decide +kernel
theorem dX8_held_30 : decode cX8_held 30 = .ok (.ifCond .lt 5, 3) := by decide +kernel
theorem dX8_held_33 : decode cX8_held 33 = .ok (.iload_n 3, 1) := by decide +kernel
theorem dX8_held_34 : decode cX8_held 34 = .ok (.ireturn, 1) := by decide +kernel
theorem dX8_held_35 : decode cX8_held 35 = .ok (.iinc 3 1, 3) := by decide +kernel
theorem dX8_held_38 : decode cX8_held 38 = .ok (.goto (-36), 3) := by decide +kernel
theorem dX8_held_41 : decode cX8_held 41 = .ok (.bipush (-2), 2) := by decide +kernel
theorem dX8_held_43 : decode cX8_held 43 = .ok (.ireturn, 1) := by decide +kernel
theorem dX8_noneLeaves_0 : decode cX8_noneLeaves 0 = .ok (.iconst 0, 1) := by decide +kernel
theorem dX8_noneLeaves_1 : decode cX8_noneLeaves 1 = .ok (.istore_n 2, 1) := by decide +kernel
theorem dX8_noneLeaves_2 : decode cX8_noneLeaves 2 = .ok (.iload_n 2, 1) := by decide +kernel
theorem dX8_noneLeaves_3 : decode cX8_noneLeaves 3 = .ok (.aload_n 0, 1) := by decide +kernel
theorem dX8_noneLeaves_4 : decode cX8_noneLeaves 4 = .ok (.getfield 35, 3) := by decide +kernel
theorem dX8_noneLeaves_7 : decode cX8_noneLeaves 7 = .ok (.getfield 48, 3) := by decide +kernel
theorem dX8_noneLeaves_10 : decode cX8_noneLeaves 10 = .ok (.if_icmp .ge 20, 3) := by decide +kernel
theorem dX8_noneLeaves_13 : decode cX8_noneLeaves 13 = .ok (.aload_n 0, 1) := by decide +kernel
theorem dX8_noneLeaves_14 : decode cX8_noneLeaves 14 = .ok (.iload_n 2, 1) := by decide +kernel
theorem dX8_noneLeaves_15 : decode cX8_noneLeaves 15 = .ok (.iload_n 1, 1) := by decide +kernel
theorem dX8_noneLeaves_16 : decode cX8_noneLeaves 16 = .ok (.invokevirtual 130, 3) := by decide +kernel
theorem dX8_noneLeaves_19 : decode cX8_noneLeaves 19 = .ok (.ifCond .eq 5, 3) := by decide +kernel
theorem dX8_noneLeaves_22 : decode cX8_noneLeaves 22 = .ok (.iconst 0, 1) := by decide +kernel
theorem dX8_noneLeaves_23 : decode cX8_noneLeaves 23 = .ok (.ireturn, 1) := by decide +kernel
theorem dX8_noneLeaves_24 : decode cX8_noneLeaves 24 = .ok (.iinc 2 1, 3) := by decide +kernel
theorem dX8_noneLeaves_27 : decode cX8_noneLeaves 27 = .ok (.goto (-25), 3) := by decide +kernel
theorem dX8_noneLeaves_30 : decode cX8_noneLeaves 30 = .ok (.iconst 1, 1) := by decide +kernel
theorem dX8_noneLeaves_31 : decode cX8_noneLeaves 31 = .ok (.ireturn, 1) := by decide +kernel
theorem dX8_wouldLeave_0 : decode cX8_wouldLeave 0 = .ok (.aload_n 0, 1) := by decide +kernel
theorem dX8_wouldLeave_1 : decode cX8_wouldLeave 1 = .ok (.getfield 68, 3) := by decide +kernel
theorem dX8_wouldLeave_4 : decode cX8_wouldLeave 4 = .ok (.iload_n 1, 1) := by decide +kernel
theorem dX8_wouldLeave_5 : decode cX8_wouldLeave 5 = .ok (.invokestatic 123, 3) := by decide +kernel
theorem dX8_wouldLeave_8 : decode cX8_wouldLeave 8 = .ok (.ifCond .eq 51, 3) := by decide +kernel
theorem dX8_wouldLeave_11 : decode cX8_wouldLeave 11 = .ok (.iload_n 2, 1) := by decide +kernel
theorem dX8_wouldLeave_12 : decode cX8_wouldLeave 12 = .ok (.iload_n 1, 1) := by decide +kernel
theorem dX8_wouldLeave_13 : decode cX8_wouldLeave 13 = .ok (.invokestatic 123, 3) := by decide +kernel
theorem dX8_wouldLeave_16 : decode cX8_wouldLeave 16 = .ok (.ifCond .ne 43, 3) := by decide +kernel
theorem dX8_wouldLeave_19 : decode cX8_wouldLeave 19 = .ok (.aload_n 0, 1) := by decide +kernel
theorem dX8_wouldLeave_20 : decode cX8_wouldLeave 20 = .ok (.aload_n 0, 1) := by decide +kernel
theorem dX8_wouldLeave_21 : decode cX8_wouldLeave 21 = .ok (.getfield 35, 3) := by decide +kernel
theorem dX8_wouldLeave_24 : decode cX8_wouldLeave 24 = .ok (.getfield 96, 3) := by decide +kernel
theorem dX8_wouldLeave_27 : decode cX8_wouldLeave 27 = .ok (.iload_n 1, 1) := by decide +kernel
theorem dX8_wouldLeave_28 : decode cX8_wouldLeave 28 = .ok (.iaload, 1) := by decide +kernel
theorem dX8_wouldLeave_29 : decode cX8_wouldLeave 29 = .ok (.iload_n 1, 1) := by decide +kernel
theorem dX8_wouldLeave_30 : decode cX8_wouldLeave 30 = .ok (.iload_n 2, 1) := by decide +kernel
theorem dX8_wouldLeave_31 : decode cX8_wouldLeave 31 = .ok (.invokevirtual 133, 3) := by decide +kernel
theorem dX8_wouldLeave_34 : decode cX8_wouldLeave 34 = .ok (.ifCond .eq 25, 3) := by decide +kernel
theorem dX8_wouldLeave_37 : decode cX8_wouldLeave 37 = .ok (.aload_n 0, 1) := by decide +kernel
theorem dX8_wouldLeave_38 : decode cX8_wouldLeave 38 = .ok (.aload_n 0, 1) := by decide +kernel
theorem dX8_wouldLeave_39 : decode cX8_wouldLeave 39 = .ok (.getfield 35, 3) := by decide +kernel
theorem dX8_wouldLeave_42 : decode cX8_wouldLeave 42 = .ok (.getfield 99, 3) := by decide +kernel
theorem dX8_wouldLeave_45 : decode cX8_wouldLeave 45 = .ok (.iload_n 1, 1) := by decide +kernel
theorem dX8_wouldLeave_46 : decode cX8_wouldLeave 46 = .ok (.iaload, 1) := by decide +kernel
theorem dX8_wouldLeave_47 : decode cX8_wouldLeave 47 = .ok (.iload_n 1, 1) := by decide +kernel
theorem dX8_wouldLeave_48 : decode cX8_wouldLeave 48 = .ok (.iload_n 2, 1) := by decide +kernel
theorem dX8_wouldLeave_49 : decode cX8_wouldLeave 49 = .ok (.invokevirtual 133, 3) := by decide +kernel
theorem dX8_wouldLeave_52 : decode cX8_wouldLeave 52 = .ok (.ifCond .eq 7, 3) := by decide +kernel
theorem dX8_wouldLeave_55 : decode cX8_wouldLeave 55 = .ok (.iconst 1, 1) := by decide +kernel
theorem dX8_wouldLeave_56 : decode cX8_wouldLeave 56 = .ok (.goto 4, 3) := by decide +kernel
theorem dX8_wouldLeave_59 : decode cX8_wouldLeave 59 = .ok (.iconst 0, 1) := by decide +kernel
theorem dX8_wouldLeave_60 : decode cX8_wouldLeave 60 = .ok (.ireturn, 1) := by decide +kernel
theorem dX8_wouldRather_0 : decode cX8_wouldRather 0 = .ok (.aload_n 0, 1) := by decide +kernel
theorem dX8_wouldRather_1 : decode cX8_wouldRather 1 = .ok (.iload_n 1, 1) := by decide +kernel
theorem dX8_wouldRather_2 : decode cX8_wouldRather 2 = .ok (.iload_n 3, 1) := by decide +kernel
theorem dX8_wouldRather_3 : decode cX8_wouldRather 3 = .ok (.invokevirtual 137, 3) := by decide +kernel
theorem dX8_wouldRather_6 : decode cX8_wouldRather 6 = .ok (.istore 4, 2) := by decide +kernel
theorem dX8_wouldRather_8 : decode cX8_wouldRather 8 = .ok (.iload 4, 2) := by decide +kernel
theorem dX8_wouldRather_10 : decode cX8_wouldRather 10 = .ok (.ifCond .ge 5, 3) := by decide +kernel
theorem dX8_wouldRather_13 : decode cX8_wouldRather 13 = .ok (.iconst 1, 1) := by decide +kernel
theorem dX8_wouldRather_14 : decode cX8_wouldRather 14 = .ok (.ireturn, 1) := by decide +kernel
theorem dX8_wouldRather_15 : decode cX8_wouldRather 15 = .ok (.aload_n 0, 1) := by decide +kernel
theorem dX8_wouldRather_16 : decode cX8_wouldRather 16 = .ok (.getfield 15, 3) := by decide +kernel
theorem dX8_wouldRather_19 : decode cX8_wouldRather 19 = .ok (.iload_n 2, 1) := by decide +kernel
theorem dX8_wouldRather_20 : decode cX8_wouldRather 20 = .ok (.iaload, 1) := by decide +kernel
theorem dX8_wouldRather_21 : decode cX8_wouldRather 21 = .ok (.aload_n 0, 1) := by decide +kernel
theorem dX8_wouldRather_22 : decode cX8_wouldRather 22 = .ok (.getfield 15, 3) := by decide +kernel
theorem dX8_wouldRather_25 : decode cX8_wouldRather 25 = .ok (.iload 4, 2) := by decide +kernel
theorem dX8_wouldRather_27 : decode cX8_wouldRather 27 = .ok (.iaload, 1) := by decide +kernel
theorem dX8_wouldRather_28 : decode cX8_wouldRather 28 = .ok (.if_icmp .eq 25, 3) := by decide +kernel
theorem dX8_wouldRather_31 : decode cX8_wouldRather 31 = .ok (.aload_n 0, 1) := by decide +kernel
theorem dX8_wouldRather_32 : decode cX8_wouldRather 32 = .ok (.getfield 15, 3) := by decide +kernel
theorem dX8_wouldRather_35 : decode cX8_wouldRather 35 = .ok (.iload_n 2, 1) := by decide +kernel
theorem dX8_wouldRather_36 : decode cX8_wouldRather 36 = .ok (.iaload, 1) := by decide +kernel
theorem dX8_wouldRather_37 : decode cX8_wouldRather 37 = .ok (.aload_n 0, 1) := by decide +kernel
theorem dX8_wouldRather_38 : decode cX8_wouldRather 38 = .ok (.getfield 15, 3) := by decide +kernel
theorem dX8_wouldRather_41 : decode cX8_wouldRather 41 = .ok (.iload 4, 2) := by decide +kernel
theorem dX8_wouldRather_43 : decode cX8_wouldRather 43 = .ok (.iaload, 1) := by decide +kernel
theorem dX8_wouldRather_44 : decode cX8_wouldRather 44 = .ok (.if_icmp .le 7, 3) := by decide +kernel
theorem dX8_wouldRather_47 : decode cX8_wouldRather 47 = .ok (.iconst 1, 1) := by decide +kernel
theorem dX8_wouldRather_48 : decode cX8_wouldRather 48 = .ok (.goto 4, 3) := by decide +kernel
theorem dX8_wouldRather_51 : decode cX8_wouldRather 51 = .ok (.iconst 0, 1) := by decide +kernel
theorem dX8_wouldRather_52 : decode cX8_wouldRather 52 = .ok (.ireturn, 1) := by decide +kernel
theorem dX8_wouldRather_53 : decode cX8_wouldRather 53 = .ok (.aload_n 0, 1) := by decide +kernel
theorem dX8_wouldRather_54 : decode cX8_wouldRather 54 = .ok (.getfield 35, 3) := by decide +kernel
theorem dX8_wouldRather_57 : decode cX8_wouldRather 57 = .ok (.iload_n 2, 1) := by decide +kernel
theorem dX8_wouldRather_58 : decode cX8_wouldRather 58 = .ok (.iload_n 1, 1) := by decide +kernel
theorem dX8_wouldRather_59 : decode cX8_wouldRather 59 = .ok (.invokevirtual 127, 3) := by decide +kernel
theorem dX8_wouldRather_62 : decode cX8_wouldRather 62 = .ok (.aload_n 0, 1) := by decide +kernel
theorem dX8_wouldRather_63 : decode cX8_wouldRather 63 = .ok (.getfield 35, 3) := by decide +kernel
theorem dX8_wouldRather_66 : decode cX8_wouldRather 66 = .ok (.iload 4, 2) := by decide +kernel
theorem dX8_wouldRather_68 : decode cX8_wouldRather 68 = .ok (.iload_n 1, 1) := by decide +kernel
theorem dX8_wouldRather_69 : decode cX8_wouldRather 69 = .ok (.invokevirtual 127, 3) := by decide +kernel
theorem dX8_wouldRather_72 : decode cX8_wouldRather 72 = .ok (.if_icmp .ge 7, 3) := by decide +kernel
theorem dX8_wouldRather_75 : decode cX8_wouldRather 75 = .ok (.iconst 1, 1) := by decide +kernel
theorem dX8_wouldRather_76 : decode cX8_wouldRather 76 = .ok (.goto 4, 3) := by decide +kernel
theorem dX8_wouldRather_79 : decode cX8_wouldRather 79 = .ok (.iconst 0, 1) := by decide +kernel
theorem dX8_wouldRather_80 : decode cX8_wouldRather 80 = .ok (.ireturn, 1) := by decide +kernel
theorem dX9_init_0 : decode cX9_init 0 = .ok (.aload_n 0, 1) := by decide +kernel
theorem dX9_init_1 : decode cX9_init 1 = .ok (.invokespecial 3, 3) := by decide +kernel
theorem dX9_init_4 : decode cX9_init 4 = .ok (.aload_n 0, 1) := by decide +kernel
theorem dX9_init_5 : decode cX9_init 5 = .ok (.iconst 5, 1) := by decide +kernel
theorem dX9_init_6 : decode cX9_init 6 = .ok (.newarray .int, 2) := by decide +kernel
theorem dX9_init_8 : decode cX9_init 8 = .ok (.putfield 9, 3) := by decide +kernel
theorem dX9_init_11 : decode cX9_init 11 = .ok (.aload_n 0, 1) := by decide +kernel
theorem dX9_init_12 : decode cX9_init 12 = .ok (.iconst 5, 1) := by decide +kernel
theorem dX9_init_13 : decode cX9_init 13 = .ok (.newarray .int, 2) := by decide +kernel
theorem dX9_init_15 : decode cX9_init 15 = .ok (.putfield 15, 3) := by decide +kernel
theorem dX9_init_18 : decode cX9_init 18 = .ok (.aload_n 0, 1) := by decide +kernel
theorem dX9_init_19 : decode cX9_init 19 = .ok (.bipush 25, 2) := by decide +kernel
theorem dX9_init_21 : decode cX9_init 21 = .ok (.newarray .int, 2) := by decide +kernel
theorem dX9_init_23 : decode cX9_init 23 = .ok (.putfield 18, 3) := by decide +kernel
theorem dX9_init_26 : decode cX9_init 26 = .ok (.aload_n 0, 1) := by decide +kernel
theorem dX9_init_27 : decode cX9_init 27 = .ok (.bipush 25, 2) := by decide +kernel
theorem dX9_init_29 : decode cX9_init 29 = .ok (.newarray .int, 2) := by decide +kernel
theorem dX9_init_31 : decode cX9_init 31 = .ok (.putfield 21, 3) := by decide +kernel
theorem dX9_init_34 : decode cX9_init 34 = .ok (.aload_n 0, 1) := by decide +kernel
theorem dX9_init_35 : decode cX9_init 35 = .ok (.sipush 250, 3) := by decide +kernel
theorem dX9_init_38 : decode cX9_init 38 = .ok (.newarray .int, 2) := by decide +kernel
theorem dX9_init_40 : decode cX9_init 40 = .ok (.putfield 24, 3) := by decide +kernel
theorem dX9_init_43 : decode cX9_init 43 = .ok (.aload_n 0, 1) := by decide +kernel
theorem dX9_init_44 : decode cX9_init 44 = .ok (.bipush 100, 2) := by decide +kernel
theorem dX9_init_46 : decode cX9_init 46 = .ok (.newarray .int, 2) := by decide +kernel
theorem dX9_init_48 : decode cX9_init 48 = .ok (.putfield 27, 3) := by decide +kernel
theorem dX9_init_51 : decode cX9_init 51 = .ok (.aload_n 0, 1) := by decide +kernel
theorem dX9_init_52 : decode cX9_init 52 = .ok (.bipush 10, 2) := by decide +kernel
theorem dX9_init_54 : decode cX9_init 54 = .ok (.newarray .int, 2) := by decide +kernel
theorem dX9_init_56 : decode cX9_init 56 = .ok (.putfield 30, 3) := by decide +kernel
theorem dX9_init_59 : decode cX9_init 59 = .ok (.aload_n 0, 1) := by decide +kernel
theorem dX9_init_60 : decode cX9_init 60 = .ok (.iconst 5, 1) := by decide +kernel
theorem dX9_init_61 : decode cX9_init 61 = .ok (.newarray .int, 2) := by decide +kernel
theorem dX9_init_63 : decode cX9_init 63 = .ok (.putfield 33, 3) := by decide +kernel
theorem dX9_init_66 : decode cX9_init 66 = .ok (.aload_n 0, 1) := by decide +kernel
theorem dX9_init_67 : decode cX9_init 67 = .ok (.bipush 32, 2) := by decide +kernel
theorem dX9_init_69 : decode cX9_init 69 = .ok (.newarray .int, 2) := by decide +kernel
theorem dX9_init_71 : decode cX9_init 71 = .ok (.putfield 36, 3) := by decide +kernel
theorem dX9_init_74 : decode cX9_init 74 = .ok (.aload_n 0, 1) := by decide +kernel
theorem dX9_init_75 : decode cX9_init 75 = .ok (.aload_n 1, 1) := by decide +kernel
theorem dX9_init_76 : decode cX9_init 76 = .ok (.putfield 39, 3) := by decide +kernel
theorem dX9_init_79 : decode cX9_init 79 = .ok (.aload_n 0, 1) := by decide +kernel
theorem dX9_init_80 : decode cX9_init 80 = .ok (.aload_n 2, 1) := by decide +kernel
theorem dX9_init_81 : decode cX9_init 81 = .ok (.putfield 43, 3) := by decide +kernel
theorem dX9_init_84 : decode cX9_init 84 = .ok (.return_, 1) := by decide +kernel
theorem dX9_search_0 : decode cX9_search 0 = .ok (.aload_n 0, 1) := by decide +kernel
theorem dX9_search_1 : decode cX9_search 1 = .ok (.getfield 47, 3) := by decide +kernel
theorem dX9_search_4 : decode cX9_search 4 = .ok (.ifCond .eq 4, 3) := by decide +kernel
theorem dX9_search_7 : decode cX9_search 7 = .ok (.return_, 1) := by decide +kernel
theorem dX9_search_8 : decode cX9_search 8 = .ok (.aload_n 0, 1) := by decide +kernel
theorem dX9_search_9 : decode cX9_search 9 = .ok (.iconst 1, 1) := by decide +kernel
theorem dX9_search_10 : decode cX9_search 10 = .ok (.putfield 47, 3) := by decide +kernel
theorem dX9_search_13 : decode cX9_search 13 = .ok (.aload_n 0, 1) := by decide +kernel
theorem dX9_search_14 : decode cX9_search 14 = .ok (.invokevirtual 51, 3) := by decide +kernel
theorem dX9_search_17 : decode cX9_search 17 = .ok (.aload_n 0, 1) := by decide +kernel
theorem dX9_search_18 : decode cX9_search 18 = .ok (.invokevirtual 54, 3) := by decide +kernel
theorem dX9_search_21 : decode cX9_search 21 = .ok (.aload_n 0, 1) := by decide +kernel
theorem dX9_search_22 : decode cX9_search 22 = .ok (.invokevirtual 57, 3) := by decide +kernel
theorem dX9_search_25 : decode cX9_search 25 = .ok (.aload_n 0, 1) := by decide +kernel
theorem dX9_search_26 : decode cX9_search 26 = .ok (.getfield 36, 3) := by decide +kernel
theorem dX9_search_29 : decode cX9_search 29 = .ok (.iconst 0, 1) := by decide +kernel
theorem dX9_search_30 : decode cX9_search 30 = .ok (.iconst 0, 1) := by decide +kernel
theorem dX9_search_31 : decode cX9_search 31 = .ok (.iastore, 1) := by decide +kernel
theorem dX9_search_32 : decode cX9_search 32 = .ok (.aload_n 0, 1) := by decide +kernel
theorem dX9_search_33 : decode cX9_search 33 = .ok (.iconst (-1), 1) := by decide +kernel
theorem dX9_search_34 : decode cX9_search 34 = .ok (.putfield 60, 3) := by decide +kernel
theorem dX9_search_37 : decode cX9_search 37 = .ok (.aload_n 0, 1) := by decide +kernel
theorem dX9_search_38 : decode cX9_search 38 = .ok (.iconst 0, 1) := by decide +kernel
theorem dX9_search_39 : decode cX9_search 39 = .ok (.iconst 0, 1) := by decide +kernel
theorem dX9_search_40 : decode cX9_search 40 = .ok (.invokevirtual 64, 3) := by decide +kernel
theorem dX9_search_43 : decode cX9_search 43 = .ok (.return_, 1) := by decide +kernel
theorem dX9_pairsFed_0 : decode cX9_pairsFed 0 = .ok (.aload_n 0, 1) := by decide +kernel
theorem dX9_pairsFed_1 : decode cX9_pairsFed 1 = .ok (.getfield 60, 3) := by decide +kernel
theorem dX9_pairsFed_4 : decode cX9_pairsFed 4 = .ok (.sipush 1000, 3) := by decide +kernel
theorem dX9_pairsFed_7 : decode cX9_pairsFed 7 = .ok (.iadd, 1) := by decide +kernel
theorem dX9_pairsFed_8 : decode cX9_pairsFed 8 = .ok (.iconst 1, 1) := by decide +kernel
theorem dX9_pairsFed_9 : decode cX9_pairsFed 9 = .ok (.isub, 1) := by decide +kernel
theorem dX9_pairsFed_10 : decode cX9_pairsFed 10 = .ok (.sipush 1000, 3) := by decide +kernel
theorem dX9_pairsFed_13 : decode cX9_pairsFed 13 = .ok (.idiv, 1) := by decide +kernel
theorem dX9_pairsFed_14 : decode cX9_pairsFed 14 = .ok (.ireturn, 1) := by decide +kernel
theorem dX9_setReaches_0 : decode cX9_setReaches 0 = .ok (.iconst 0, 1) := by decide +kernel
theorem dX9_setReaches_1 : decode cX9_setReaches 1 = .ok (.istore_n 1, 1) := by decide +kernel
theorem dX9_setReaches_2 : decode cX9_setReaches 2 = .ok (.iload_n 1, 1) := by decide +kernel
theorem dX9_setReaches_3 : decode cX9_setReaches 3 = .ok (.aload_n 0, 1) := by decide +kernel
theorem dX9_setReaches_4 : decode cX9_setReaches 4 = .ok (.getfield 43, 3) := by decide +kernel
theorem dX9_setReaches_7 : decode cX9_setReaches 7 = .ok (.getfield 68, 3) := by decide +kernel
theorem dX9_setReaches_10 : decode cX9_setReaches 10 = .ok (.if_icmp .ge 78, 3) := by decide +kernel
theorem dX9_setReaches_13 : decode cX9_setReaches 13 = .ok (.aload_n 0, 1) := by decide +kernel
theorem dX9_setReaches_14 : decode cX9_setReaches 14 = .ok (.getfield 30, 3) := by decide +kernel
theorem dX9_setReaches_17 : decode cX9_setReaches 17 = .ok (.iload_n 1, 1) := by decide +kernel
theorem dX9_setReaches_18 : decode cX9_setReaches 18 = .ok (.iconst 0, 1) := by decide +kernel
theorem dX9_setReaches_19 : decode cX9_setReaches 19 = .ok (.iastore, 1) := by decide +kernel
theorem dX9_setReaches_20 : decode cX9_setReaches 20 = .ok (.iconst 1, 1) := by decide +kernel
theorem dX9_setReaches_21 : decode cX9_setReaches 21 = .ok (.istore_n 2, 1) := by decide +kernel
theorem dX9_setReaches_22 : decode cX9_setReaches 22 = .ok (.iload_n 2, 1) := by decide +kernel
theorem dX9_setReaches_23 : decode cX9_setReaches 23 = .ok (.aload_n 0, 1) := by decide +kernel
theorem dX9_setReaches_24 : decode cX9_setReaches 24 = .ok (.getfield 39, 3) := by decide +kernel
theorem dX9_setReaches_27 : decode cX9_setReaches 27 = .ok (.getfield 73, 3) := by decide +kernel
theorem dX9_setReaches_30 : decode cX9_setReaches 30 = .ok (.if_icmp .ge 52, 3) := by decide +kernel
theorem dX9_setReaches_33 : decode cX9_setReaches 33 = .ok (.aload_n 0, 1) := by decide +kernel
theorem dX9_setReaches_34 : decode cX9_setReaches 34 = .ok (.getfield 43, 3) := by decide +kernel
theorem dX9_setReaches_37 : decode cX9_setReaches 37 = .ok (.getfield 78, 3) := by decide +kernel
theorem dX9_setReaches_40 : decode cX9_setReaches 40 = .ok (.iload_n 1, 1) := by decide +kernel
theorem dX9_setReaches_41 : decode cX9_setReaches 41 = .ok (.iaload, 1) := by decide +kernel
theorem dX9_setReaches_42 : decode cX9_setReaches 42 = .ok (.aload_n 0, 1) := by decide +kernel
theorem dX9_setReaches_43 : decode cX9_setReaches 43 = .ok (.getfield 43, 3) := by decide +kernel
theorem dX9_setReaches_46 : decode cX9_setReaches 46 = .ok (.iload_n 1, 1) := by decide +kernel
theorem dX9_setReaches_47 : decode cX9_setReaches 47 = .ok (.invokevirtual 81, 3) := by decide +kernel
theorem dX9_setReaches_50 : decode cX9_setReaches 50 = .ok (.iload_n 2, 1) := by decide +kernel
theorem dX9_setReaches_51 : decode cX9_setReaches 51 = .ok (.aload_n 0, 1) := by decide +kernel
theorem dX9_setReaches_52 : decode cX9_setReaches 52 = .ok (.getfield 39, 3) := by decide +kernel
theorem dX9_setReaches_55 : decode cX9_setReaches 55 = .ok (.getfield 85, 3) := by decide +kernel
theorem dX9_setReaches_58 : decode cX9_setReaches 58 = .ok (.invokestatic 88, 3) := by decide +kernel
theorem dX9_setReaches_61 : decode cX9_setReaches 61 = .ok (.ifCond .eq 15, 3) := by decide +kernel
theorem dX9_setReaches_64 : decode cX9_setReaches 64 = .ok (.aload_n 0, 1) := by decide +kernel
theorem dX9_setReaches_65 : decode cX9_setReaches 65 = .ok (.getfield 30, 3) := by decide +kernel
theorem dX9_setReaches_68 : decode cX9_setReaches 68 = .ok (.iload_n 1, 1) := by decide +kernel
theorem dX9_setReaches_69 : decode cX9_setReaches 69 = .ok (.dup2, 1) := by decide +kernel
theorem dX9_setReaches_70 : decode cX9_setReaches 70 = .ok (.iaload, 1) := by decide +kernel
theorem dX9_setReaches_71 : decode cX9_setReaches 71 = .ok (.iconst 1, 1) := by decide +kernel
theorem dX9_setReaches_72 : decode cX9_setReaches 72 = .ok (.iload_n 2, 1) := by decide +kernel
theorem dX9_setReaches_73 : decode cX9_setReaches 73 = .ok (.ishl, 1) := by decide +kernel
theorem dX9_setReaches_74 : decode cX9_setReaches 74 = .ok (.ior, 1) := by decide +kernel
theorem dX9_setReaches_75 : decode cX9_setReaches 75 = .ok (.iastore, 1) := by decide +kernel
theorem dX9_setReaches_76 : decode cX9_setReaches 76 = .ok (.iinc 2 1, 3) := by decide +kernel
theorem dX9_setReaches_79 : decode cX9_setReaches 79 = .ok (.goto (-57), 3) := by decide +kernel
theorem dX9_setReaches_82 : decode cX9_setReaches 82 = .ok (.iinc 1 1, 3) := by decide +kernel
theorem dX9_setReaches_85 : decode cX9_setReaches 85 = .ok (.goto (-83), 3) := by decide +kernel
theorem dX9_setReaches_88 : decode cX9_setReaches 88 = .ok (.iconst 0, 1) := by decide +kernel
theorem dX9_setReaches_89 : decode cX9_setReaches 89 = .ok (.istore_n 1, 1) := by decide +kernel
theorem dX9_setReaches_90 : decode cX9_setReaches 90 = .ok (.iload_n 1, 1) := by decide +kernel
theorem dX9_setReaches_91 : decode cX9_setReaches 91 = .ok (.aload_n 0, 1) := by decide +kernel
theorem dX9_setReaches_92 : decode cX9_setReaches 92 = .ok (.getfield 39, 3) := by decide +kernel
theorem dX9_setReaches_95 : decode cX9_setReaches 95 = .ok (.getfield 92, 3) := by decide +kernel
theorem dX9_setReaches_98 : decode cX9_setReaches 98 = .ok (.if_icmp .ge 41, 3) := by decide +kernel
theorem dX9_setReaches_101 : decode cX9_setReaches 101 = .ok (.iconst 0, 1) := by decide +kernel
theorem dX9_setReaches_102 : decode cX9_setReaches 102 = .ok (.istore_n 2, 1) := by decide +kernel
theorem dX9_setReaches_103 : decode cX9_setReaches 103 = .ok (.iload_n 2, 1) := by decide +kernel
theorem dX9_setReaches_104 : decode cX9_setReaches 104 = .ok (.iload_n 1, 1) := by decide +kernel
theorem dX9_setReaches_105 : decode cX9_setReaches 105 = .ok (.if_icmp .ge 28, 3) := by decide +kernel
theorem dX9_setReaches_108 : decode cX9_setReaches 108 = .ok (.aload_n 0, 1) := by decide +kernel
theorem dX9_setReaches_109 : decode cX9_setReaches 109 = .ok (.getfield 18, 3) := by decide +kernel
theorem dX9_setReaches_112 : decode cX9_setReaches 112 = .ok (.iload_n 2, 1) := by decide +kernel
theorem dX9_setReaches_113 : decode cX9_setReaches 113 = .ok (.iconst 5, 1) := by decide +kernel
theorem dX9_setReaches_114 : decode cX9_setReaches 114 = .ok (.imul, 1) := by decide +kernel
theorem dX9_setReaches_115 : decode cX9_setReaches 115 = .ok (.iload_n 1, 1) := by decide +kernel
theorem dX9_setReaches_116 : decode cX9_setReaches 116 = .ok (.iadd, 1) := by decide +kernel
theorem dX9_setReaches_117 : decode cX9_setReaches 117 = .ok (.aload_n 0, 1) := by decide +kernel
theorem dX9_setReaches_118 : decode cX9_setReaches 118 = .ok (.getfield 43, 3) := by decide +kernel
theorem dX9_setReaches_121 : decode cX9_setReaches 121 = .ok (.iload_n 2, 1) := by decide +kernel
theorem dX9_setReaches_122 : decode cX9_setReaches 122 = .ok (.iload_n 1, 1) := by decide +kernel
theorem dX9_setReaches_123 : decode cX9_setReaches 123 = .ok (.invokevirtual 95, 3) := by decide +kernel
theorem dX9_setReaches_126 : decode cX9_setReaches 126 = .ok (.iastore, 1) := by decide +kernel
theorem dX9_setReaches_127 : decode cX9_setReaches 127 = .ok (.iinc 2 1, 3) := by decide +kernel
theorem dX9_setReaches_130 : decode cX9_setReaches 130 = .ok (.goto (-27), 3) := by decide +kernel
theorem dX9_setReaches_133 : decode cX9_setReaches 133 = .ok (.iinc 1 1, 3) := by decide +kernel
theorem dX9_setReaches_136 : decode cX9_setReaches 136 = .ok (.goto (-46), 3) := by decide +kernel
theorem dX9_setReaches_139 : decode cX9_setReaches 139 = .ok (.return_, 1) := by decide +kernel
theorem dX9_setSlops_0 : decode cX9_setSlops 0 = .ok (.iconst 0, 1) := by decide +kernel
theorem dX9_setSlops_1 : decode cX9_setSlops 1 = .ok (.istore_n 1, 1) := by decide +kernel
theorem dX9_setSlops_2 : decode cX9_setSlops 2 = .ok (.iload_n 1, 1) := by decide +kernel
theorem dX9_setSlops_3 : decode cX9_setSlops 3 = .ok (.aload_n 0, 1) := by decide +kernel
theorem dX9_setSlops_4 : decode cX9_setSlops 4 = .ok (.getfield 39, 3) := by decide +kernel
theorem dX9_setSlops_7 : decode cX9_setSlops 7 = .ok (.getfield 73, 3) := by decide +kernel
theorem dX9_setSlops_10 : decode cX9_setSlops 10 = .ok (.if_icmp .ge 51, 3) := by decide +kernel
theorem dX9_setSlops_13 : decode cX9_setSlops 13 = .ok (.iconst 0, 1) := by decide +kernel
theorem dX9_setSlops_14 : decode cX9_setSlops 14 = .ok (.istore_n 2, 1) := by decide +kernel
theorem dX9_setSlops_15 : decode cX9_setSlops 15 = .ok (.iload_n 2, 1) := by decide +kernel
theorem dX9_setSlops_16 : decode cX9_setSlops 16 = .ok (.aload_n 0, 1) := by decide +kernel
theorem dX9_setSlops_17 : decode cX9_setSlops 17 = .ok (.getfield 39, 3) := by decide +kernel
theorem dX9_setSlops_20 : decode cX9_setSlops 20 = .ok (.getfield 73, 3) := by decide +kernel
theorem dX9_setSlops_23 : decode cX9_setSlops 23 = .ok (.if_icmp .ge 32, 3) := by decide +kernel
theorem dX9_setSlops_26 : decode cX9_setSlops 26 = .ok (.aload_n 0, 1) := by decide +kernel
theorem dX9_setSlops_27 : decode cX9_setSlops 27 = .ok (.getfield 27, 3) := by decide +kernel
theorem dX9_setSlops_30 : decode cX9_setSlops 30 = .ok (.iload_n 1, 1) := by decide +kernel
theorem dX9_setSlops_31 : decode cX9_setSlops 31 = .ok (.bipush 10, 2) := by decide +kernel
theorem dX9_setSlops_33 : decode cX9_setSlops 33 = .ok (.imul, 1) := by decide +kernel
theorem dX9_setSlops_34 : decode cX9_setSlops 34 = .ok (.iload_n 2, 1) := by decide +kernel
theorem dX9_setSlops_35 : decode cX9_setSlops 35 = .ok (.iadd, 1) := by decide +kernel
theorem dX9_setSlops_36 : decode cX9_setSlops 36 = .ok (.iload_n 1, 1) := by decide +kernel
theorem dX9_setSlops_37 : decode cX9_setSlops 37 = .ok (.iload_n 2, 1) := by decide +kernel
theorem dX9_setSlops_38 : decode cX9_setSlops 38 = .ok (.aload_n 0, 1) := by decide +kernel
theorem dX9_setSlops_39 : decode cX9_setSlops 39 = .ok (.getfield 39, 3) := by decide +kernel
theorem dX9_setSlops_42 : decode cX9_setSlops 42 = .ok (.getfield 99, 3) := by decide +kernel
theorem dX9_setSlops_45 : decode cX9_setSlops 45 = .ok (.invokestatic 102, 3) := by decide +kernel
theorem dX9_setSlops_48 : decode cX9_setSlops 48 = .ok (.iastore, 1) := by decide +kernel
theorem dX9_setSlops_49 : decode cX9_setSlops 49 = .ok (.iinc 2 1, 3) := by decide +kernel
theorem dX9_setSlops_52 : decode cX9_setSlops 52 = .ok (.goto (-37), 3) := by decide +kernel
theorem dX9_setSlops_55 : decode cX9_setSlops 55 = .ok (.iinc 1 1, 3) := by decide +kernel
theorem dX9_setSlops_58 : decode cX9_setSlops 58 = .ok (.goto (-56), 3) := by decide +kernel
theorem dX9_setSlops_61 : decode cX9_setSlops 61 = .ok (.return_, 1) := by decide +kernel
theorem dX9_setHopes_0 : decode cX9_setHopes 0 = .ok (.iconst 0, 1) := by decide +kernel
theorem dX9_setHopes_1 : decode cX9_setHopes 1 = .ok (.istore_n 1, 1) := by decide +kernel
theorem dX9_setHopes_2 : decode cX9_setHopes 2 = .ok (.iload_n 1, 1) := by decide +kernel
theorem dX9_setHopes_3 : decode cX9_setHopes 3 = .ok (.aload_n 0, 1) := by decide +kernel
theorem dX9_setHopes_4 : decode cX9_setHopes 4 = .ok (.getfield 39, 3) := by decide +kernel
theorem dX9_setHopes_7 : decode cX9_setHopes 7 = .ok (.getfield 92, 3) := by decide +kernel
theorem dX9_setHopes_10 : decode cX9_setHopes 10 = .ok (.if_icmp .ge 103, 3) := by decide +kernel
theorem dX9_setHopes_13 : decode cX9_setHopes 13 = .ok (.iconst 0, 1) := by decide +kernel
theorem dX9_setHopes_14 : decode cX9_setHopes 14 = .ok (.istore_n 2, 1) := by decide +kernel
theorem dX9_setHopes_15 : decode cX9_setHopes 15 = .ok (.iload_n 2, 1) := by decide +kernel
theorem dX9_setHopes_16 : decode cX9_setHopes 16 = .ok (.iload_n 1, 1) := by decide +kernel
theorem dX9_setHopes_17 : decode cX9_setHopes 17 = .ok (.if_icmp .ge 90, 3) := by decide +kernel
theorem dX9_setHopes_20 : decode cX9_setHopes 20 = .ok (.iload_n 2, 1) := by decide +kernel
theorem dX9_setHopes_21 : decode cX9_setHopes 21 = .ok (.iconst 5, 1) := by decide +kernel
theorem dX9_setHopes_22 : decode cX9_setHopes 22 = .ok (.imul, 1) := by decide +kernel
theorem dX9_setHopes_23 : decode cX9_setHopes 23 = .ok (.iload_n 1, 1) := by decide +kernel
theorem dX9_setHopes_24 : decode cX9_setHopes 24 = .ok (.iadd, 1) := by decide +kernel
theorem dX9_setHopes_25 : decode cX9_setHopes 25 = .ok (.istore_n 3, 1) := by decide +kernel
theorem dX9_setHopes_26 : decode cX9_setHopes 26 = .ok (.aload_n 0, 1) := by decide +kernel
theorem dX9_setHopes_27 : decode cX9_setHopes 27 = .ok (.getfield 21, 3) := by decide +kernel
theorem dX9_setHopes_30 : decode cX9_setHopes 30 = .ok (.iload_n 3, 1) := by decide +kernel
theorem dX9_setHopes_31 : decode cX9_setHopes 31 = .ok (.iconst 0, 1) := by decide +kernel
theorem dX9_setHopes_32 : decode cX9_setHopes 32 = .ok (.iastore, 1) := by decide +kernel
theorem dX9_setHopes_33 : decode cX9_setHopes 33 = .ok (.iconst 0, 1) := by decide +kernel
theorem dX9_setHopes_34 : decode cX9_setHopes 34 = .ok (.istore 4, 2) := by decide +kernel
theorem dX9_setHopes_36 : decode cX9_setHopes 36 = .ok (.iload 4, 2) := by decide +kernel
theorem dX9_setHopes_38 : decode cX9_setHopes 38 = .ok (.aload_n 0, 1) := by decide +kernel
theorem dX9_setHopes_39 : decode cX9_setHopes 39 = .ok (.getfield 39, 3) := by decide +kernel
theorem dX9_setHopes_42 : decode cX9_setHopes 42 = .ok (.getfield 73, 3) := by decide +kernel
theorem dX9_setHopes_45 : decode cX9_setHopes 45 = .ok (.if_icmp .ge 56, 3) := by decide +kernel
theorem dX9_setHopes_48 : decode cX9_setHopes 48 = .ok (.aload_n 0, 1) := by decide +kernel
theorem dX9_setHopes_49 : decode cX9_setHopes 49 = .ok (.getfield 24, 3) := by decide +kernel
theorem dX9_setHopes_52 : decode cX9_setHopes 52 = .ok (.iload_n 3, 1) := by decide +kernel
theorem dX9_setHopes_53 : decode cX9_setHopes 53 = .ok (.bipush 10, 2) := by decide +kernel
theorem dX9_setHopes_55 : decode cX9_setHopes 55 = .ok (.imul, 1) := by decide +kernel
theorem dX9_setHopes_56 : decode cX9_setHopes 56 = .ok (.iload 4, 2) := by decide +kernel
theorem dX9_setHopes_58 : decode cX9_setHopes 58 = .ok (.iadd, 1) := by decide +kernel
theorem dX9_setHopes_59 : decode cX9_setHopes 59 = .ok (.aload_n 0, 1) := by decide +kernel
theorem dX9_setHopes_60 : decode cX9_setHopes 60 = .ok (.iload_n 2, 1) := by decide +kernel
theorem dX9_setHopes_61 : decode cX9_setHopes 61 = .ok (.iload_n 1, 1) := by decide +kernel
theorem dX9_setHopes_62 : decode cX9_setHopes 62 = .ok (.iload 4, 2) := by decide +kernel
theorem dX9_setHopes_64 : decode cX9_setHopes 64 = .ok (.invokevirtual 106, 3) := by decide +kernel
theorem dX9_setHopes_67 : decode cX9_setHopes 67 = .ok (.iastore, 1) := by decide +kernel
theorem dX9_setHopes_68 : decode cX9_setHopes 68 = .ok (.aload_n 0, 1) := by decide +kernel
theorem dX9_setHopes_69 : decode cX9_setHopes 69 = .ok (.getfield 21, 3) := by decide +kernel
theorem dX9_setHopes_72 : decode cX9_setHopes 72 = .ok (.iload_n 3, 1) := by decide +kernel
theorem dX9_setHopes_73 : decode cX9_setHopes 73 = .ok (.aload_n 0, 1) := by decide +kernel
theorem dX9_setHopes_74 : decode cX9_setHopes 74 = .ok (.getfield 21, 3) := by decide +kernel
theorem dX9_setHopes_77 : decode cX9_setHopes 77 = .ok (.iload_n 3, 1) := by decide +kernel
theorem dX9_setHopes_78 : decode cX9_setHopes 78 = .ok (.iaload, 1) := by decide +kernel
theorem dX9_setHopes_79 : decode cX9_setHopes 79 = .ok (.aload_n 0, 1) := by decide +kernel
theorem dX9_setHopes_80 : decode cX9_setHopes 80 = .ok (.getfield 24, 3) := by decide +kernel
theorem dX9_setHopes_83 : decode cX9_setHopes 83 = .ok (.iload_n 3, 1) := by decide +kernel
theorem dX9_setHopes_84 : decode cX9_setHopes 84 = .ok (.bipush 10, 2) := by decide +kernel
theorem dX9_setHopes_86 : decode cX9_setHopes 86 = .ok (.imul, 1) := by decide +kernel
theorem dX9_setHopes_87 : decode cX9_setHopes 87 = .ok (.iload 4, 2) := by decide +kernel
theorem dX9_setHopes_89 : decode cX9_setHopes 89 = .ok (.iadd, 1) := by decide +kernel
theorem dX9_setHopes_90 : decode cX9_setHopes 90 = .ok (.iaload, 1) := by decide +kernel
theorem dX9_setHopes_91 : decode cX9_setHopes 91 = .ok (.invokestatic 109, 3) := by decide +kernel
theorem dX9_setHopes_94 : decode cX9_setHopes 94 = .ok (.iastore, 1) := by decide +kernel
theorem dX9_setHopes_95 : decode cX9_setHopes 95 = .ok (.iinc 4 1, 3) := by decide +kernel
theorem dX9_setHopes_98 : decode cX9_setHopes 98 = .ok (.goto (-62), 3) := by decide +kernel
theorem dX9_setHopes_101 : decode cX9_setHopes 101 = .ok (.iinc 2 1, 3) := by decide +kernel
theorem dX9_setHopes_104 : decode cX9_setHopes 104 = .ok (.goto (-89), 3) := by decide +kernel
theorem dX9_setHopes_107 : decode cX9_setHopes 107 = .ok (.iinc 1 1, 3) := by decide +kernel
theorem dX9_setHopes_110 : decode cX9_setHopes 110 = .ok (.goto (-108), 3) := by decide +kernel
theorem dX9_setHopes_113 : decode cX9_setHopes 113 = .ok (.return_, 1) := by decide +kernel
theorem dX9_hopeFrom_0 : decode cX9_hopeFrom 0 = .ok (.iconst 0, 1) := by decide +kernel
theorem dX9_hopeFrom_1 : decode cX9_hopeFrom 1 = .ok (.istore 4, 2) := by decide +kernel
theorem dX9_hopeFrom_3 : decode cX9_hopeFrom 3 = .ok (.iconst 0, 1) := by decide +kernel
theorem dX9_hopeFrom_4 : decode cX9_hopeFrom 4 = .ok (.istore 5, 2) := by decide +kernel
theorem dX9_hopeFrom_6 : decode cX9_hopeFrom 6 = .ok (.iload 5, 2) := by decide +kernel
theorem dX9_hopeFrom_8 : decode cX9_hopeFrom 8 = .ok (.aload_n 0, 1) := by decide +kernel
theorem dX9_hopeFrom_9 : decode cX9_hopeFrom 9 = .ok (.getfield 39, 3) := by decide +kernel
theorem dX9_hopeFrom_12 : decode cX9_hopeFrom 12 = .ok (.getfield 73, 3) := by decide +kernel
theorem dX9_hopeFrom_15 : decode cX9_hopeFrom 15 = .ok (.if_icmp .ge 31, 3) := by decide +kernel
theorem dX9_hopeFrom_18 : decode cX9_hopeFrom 18 = .ok (.iload 5, 2) := by decide +kernel
theorem dX9_hopeFrom_20 : decode cX9_hopeFrom 20 = .ok (.iload_n 3, 1) := by decide +kernel
theorem dX9_hopeFrom_21 : decode cX9_hopeFrom 21 = .ok (.if_icmp .eq 19, 3) := by decide +kernel
theorem dX9_hopeFrom_24 : decode cX9_hopeFrom 24 = .ok (.iload 4, 2) := by decide +kernel
theorem dX9_hopeFrom_26 : decode cX9_hopeFrom 26 = .ok (.aload_n 0, 1) := by decide +kernel
theorem dX9_hopeFrom_27 : decode cX9_hopeFrom 27 = .ok (.iload_n 1, 1) := by decide +kernel
theorem dX9_hopeFrom_28 : decode cX9_hopeFrom 28 = .ok (.iload_n 2, 1) := by decide +kernel
theorem dX9_hopeFrom_29 : decode cX9_hopeFrom 29 = .ok (.iload_n 3, 1) := by decide +kernel
theorem dX9_hopeFrom_30 : decode cX9_hopeFrom 30 = .ok (.iload 5, 2) := by decide +kernel
theorem dX9_hopeFrom_32 : decode cX9_hopeFrom 32 = .ok (.invokevirtual 114, 3) := by decide +kernel
theorem dX9_hopeFrom_35 : decode cX9_hopeFrom 35 = .ok (.invokestatic 109, 3) := by decide +kernel
theorem dX9_hopeFrom_38 : decode cX9_hopeFrom 38 = .ok (.istore 4, 2) := by decide +kernel
theorem dX9_hopeFrom_40 : decode cX9_hopeFrom 40 = .ok (.iinc 5 1, 3) := by decide +kernel
theorem dX9_hopeFrom_43 : decode cX9_hopeFrom 43 = .ok (.goto (-37), 3) := by decide +kernel
theorem dX9_hopeFrom_46 : decode cX9_hopeFrom 46 = .ok (.iload 4, 2) := by decide +kernel
theorem dX9_hopeFrom_48 : decode cX9_hopeFrom 48 = .ok (.ireturn, 1) := by decide +kernel
theorem dX9_gainOf_0 : decode cX9_gainOf 0 = .ok (.aload_n 0, 1) := by decide +kernel
theorem dX9_gainOf_1 : decode cX9_gainOf 1 = .ok (.getfield 18, 3) := by decide +kernel
theorem dX9_gainOf_4 : decode cX9_gainOf 4 = .ok (.iload_n 1, 1) := by decide +kernel
theorem dX9_gainOf_5 : decode cX9_gainOf 5 = .ok (.iconst 5, 1) := by decide +kernel
theorem dX9_gainOf_6 : decode cX9_gainOf 6 = .ok (.imul, 1) := by decide +kernel
theorem dX9_gainOf_7 : decode cX9_gainOf 7 = .ok (.iload_n 2, 1) := by decide +kernel
theorem dX9_gainOf_8 : decode cX9_gainOf 8 = .ok (.iadd, 1) := by decide +kernel
theorem dX9_gainOf_9 : decode cX9_gainOf 9 = .ok (.iaload, 1) := by decide +kernel
theorem dX9_gainOf_10 : decode cX9_gainOf 10 = .ok (.istore 5, 2) := by decide +kernel
theorem dX9_gainOf_12 : decode cX9_gainOf 12 = .ok (.iload 5, 2) := by decide +kernel
theorem dX9_gainOf_14 : decode cX9_gainOf 14 = .ok (.ifCond .lt 23, 3) := by decide +kernel
theorem dX9_gainOf_17 : decode cX9_gainOf 17 = .ok (.aload_n 0, 1) := by decide +kernel
theorem dX9_gainOf_18 : decode cX9_gainOf 18 = .ok (.getfield 30, 3) := by decide +kernel
theorem dX9_gainOf_21 : decode cX9_gainOf 21 = .ok (.iload 5, 2) := by decide +kernel
theorem dX9_gainOf_23 : decode cX9_gainOf 23 = .ok (.iaload, 1) := by decide +kernel
theorem dX9_gainOf_24 : decode cX9_gainOf 24 = .ok (.iload_n 3, 1) := by decide +kernel
theorem dX9_gainOf_25 : decode cX9_gainOf 25 = .ok (.iload 4, 2) := by decide +kernel
theorem dX9_gainOf_27 : decode cX9_gainOf 27 = .ok (.isub, 1) := by decide +kernel
theorem dX9_gainOf_28 : decode cX9_gainOf 28 = .ok (.invokestatic 118, 3) := by decide +kernel
theorem dX9_gainOf_31 : decode cX9_gainOf 31 = .ok (.invokestatic 121, 3) := by decide +kernel
theorem dX9_gainOf_34 : decode cX9_gainOf 34 = .ok (.ifCond .ne 5, 3) := by decide +kernel
theorem dX9_gainOf_37 : decode cX9_gainOf 37 = .ok (.iconst 0, 1) := by decide +kernel
theorem dX9_gainOf_38 : decode cX9_gainOf 38 = .ok (.ireturn, 1) := by decide +kernel
theorem dX9_gainOf_39 : decode cX9_gainOf 39 = .ok (.sipush 1000, 3) := by decide +kernel
theorem dX9_gainOf_42 : decode cX9_gainOf 42 = .ok (.aload_n 0, 1) := by decide +kernel
theorem dX9_gainOf_43 : decode cX9_gainOf 43 = .ok (.getfield 27, 3) := by decide +kernel
theorem dX9_gainOf_46 : decode cX9_gainOf 46 = .ok (.iload_n 3, 1) := by decide +kernel
theorem dX9_gainOf_47 : decode cX9_gainOf 47 = .ok (.bipush 10, 2) := by decide +kernel
theorem dX9_gainOf_49 : decode cX9_gainOf 49 = .ok (.imul, 1) := by decide +kernel
theorem dX9_gainOf_50 : decode cX9_gainOf 50 = .ok (.iload 4, 2) := by decide +kernel
theorem dX9_gainOf_52 : decode cX9_gainOf 52 = .ok (.iadd, 1) := by decide +kernel
theorem dX9_gainOf_53 : decode cX9_gainOf 53 = .ok (.iaload, 1) := by decide +kernel
theorem dX9_gainOf_54 : decode cX9_gainOf 54 = .ok (.isub, 1) := by decide +kernel
theorem dX9_gainOf_55 : decode cX9_gainOf 55 = .ok (.ireturn, 1) := by decide +kernel
theorem dX9_place_0 : decode cX9_place 0 = .ok (.aload_n 0, 1) := by decide +kernel
theorem dX9_place_1 : decode cX9_place 1 = .ok (.iload_n 1, 1) := by decide +kernel
theorem dX9_place_2 : decode cX9_place 2 = .ok (.invokevirtual 125, 3) := by decide +kernel
theorem dX9_place_5 : decode cX9_place 5 = .ok (.aload_n 0, 1) := by decide +kernel
theorem dX9_place_6 : decode cX9_place 6 = .ok (.getfield 60, 3) := by decide +kernel
theorem dX9_place_9 : decode cX9_place 9 = .ok (.if_icmp .gt 4, 3) := by decide +kernel
theorem dX9_place_12 : decode cX9_place 12 = .ok (.return_, 1) := by decide +kernel
theorem dX9_place_13 : decode cX9_place 13 = .ok (.iload_n 1, 1) := by decide +kernel
theorem dX9_place_14 : decode cX9_place 14 = .ok (.aload_n 0, 1) := by decide +kernel
theorem dX9_place_15 : decode cX9_place 15 = .ok (.getfield 39, 3) := by decide +kernel
theorem dX9_place_18 : decode cX9_place 18 = .ok (.getfield 92, 3) := by decide +kernel
theorem dX9_place_21 : decode cX9_place 21 = .ok (.if_icmp .lt 38, 3) := by decide +kernel
theorem dX9_place_24 : decode cX9_place 24 = .ok (.aload_n 0, 1) := by decide +kernel
theorem dX9_place_25 : decode cX9_place 25 = .ok (.aload_n 0, 1) := by decide +kernel
theorem dX9_place_26 : decode cX9_place 26 = .ok (.getfield 36, 3) := by decide +kernel
theorem dX9_place_29 : decode cX9_place 29 = .ok (.iconst 1, 1) := by decide +kernel
theorem dX9_place_30 : decode cX9_place 30 = .ok (.aload_n 0, 1) := by decide +kernel
theorem dX9_place_31 : decode cX9_place 31 = .ok (.getfield 39, 3) := by decide +kernel
theorem dX9_place_34 : decode cX9_place 34 = .ok (.getfield 92, 3) := by decide +kernel
theorem dX9_place_37 : decode cX9_place 37 = .ok (.ishl, 1) := by decide +kernel
theorem dX9_place_38 : decode cX9_place 38 = .ok (.iconst 1, 1) := by decide +kernel
theorem dX9_place_39 : decode cX9_place 39 = .ok (.isub, 1) := by decide +kernel
theorem dX9_place_40 : decode cX9_place 40 = .ok (.iaload, 1) := by decide +kernel
theorem dX9_place_41 : decode cX9_place 41 = .ok (.putfield 60, 3) := by decide +kernel
theorem dX9_place_44 : decode cX9_place 44 = .ok (.aload_n 0, 1) := by decide +kernel
theorem dX9_place_45 : decode cX9_place 45 = .ok (.getfield 15, 3) := by decide +kernel
theorem dX9_place_48 : decode cX9_place 48 = .ok (.iconst 0, 1) := by decide +kernel
theorem dX9_place_49 : decode cX9_place 49 = .ok (.aload_n 0, 1) := by decide +kernel
theorem dX9_place_50 : decode cX9_place 50 = .ok (.getfield 9, 3) := by decide +kernel
theorem dX9_place_53 : decode cX9_place 53 = .ok (.iconst 0, 1) := by decide +kernel
theorem dX9_place_54 : decode cX9_place 54 = .ok (.iconst 5, 1) := by decide +kernel
theorem dX9_place_55 : decode cX9_place 55 = .ok (.invokestatic 128, 3) := by decide +kernel
theorem dX9_place_58 : decode cX9_place 58 = .ok (.return_, 1) := by decide +kernel
theorem dX9_place_59 : decode cX9_place 59 = .ok (.iconst 0, 1) := by decide +kernel
theorem dX9_place_60 : decode cX9_place 60 = .ok (.istore_n 3, 1) := by decide +kernel
theorem dX9_place_61 : decode cX9_place 61 = .ok (.iload_n 3, 1) := by decide +kernel
theorem dX9_place_62 : decode cX9_place 62 = .ok (.aload_n 0, 1) := by decide +kernel
theorem dX9_place_63 : decode cX9_place 63 = .ok (.getfield 39, 3) := by decide +kernel
theorem dX9_place_66 : decode cX9_place 66 = .ok (.getfield 73, 3) := by decide +kernel
theorem dX9_place_69 : decode cX9_place 69 = .ok (.if_icmp .ge 78, 3) := by decide +kernel
theorem dX9_place_72 : decode cX9_place 72 = .ok (.iload_n 2, 1) := by decide +kernel
theorem dX9_place_73 : decode cX9_place 73 = .ok (.iload_n 3, 1) := by decide +kernel
theorem dX9_place_74 : decode cX9_place 74 = .ok (.invokestatic 121, 3) := by decide +kernel
theorem dX9_place_77 : decode cX9_place 77 = .ok (.ifCond .ne 64, 3) := by decide +kernel
theorem dX9_place_80 : decode cX9_place 80 = .ok (.aload_n 0, 1) := by decide +kernel
theorem dX9_place_81 : decode cX9_place 81 = .ok (.getfield 15, 3) := by decide +kernel
theorem dX9_place_84 : decode cX9_place 84 = .ok (.iload_n 1, 1) := by decide +kernel
theorem dX9_place_85 : decode cX9_place 85 = .ok (.iload_n 3, 1) := by decide +kernel
theorem dX9_place_86 : decode cX9_place 86 = .ok (.iastore, 1) := by decide +kernel
theorem dX9_place_87 : decode cX9_place 87 = .ok (.iconst 0, 1) := by decide +kernel
theorem dX9_place_88 : decode cX9_place 88 = .ok (.istore 4, 2) := by decide +kernel
theorem dX9_place_90 : decode cX9_place 90 = .ok (.iload 4, 2) := by decide +kernel
theorem dX9_place_92 : decode cX9_place 92 = .ok (.iload_n 1, 1) := by decide +kernel
theorem dX9_place_93 : decode cX9_place 93 = .ok (.if_icmp .ge 31, 3) := by decide +kernel
theorem dX9_place_96 : decode cX9_place 96 = .ok (.aload_n 0, 1) := by decide +kernel
theorem dX9_place_97 : decode cX9_place 97 = .ok (.getfield 33, 3) := by decide +kernel
theorem dX9_place_100 : decode cX9_place 100 = .ok (.iload 4, 2) := by decide +kernel
theorem dX9_place_102 : decode cX9_place 102 = .ok (.aload_n 0, 1) := by decide +kernel
theorem dX9_place_103 : decode cX9_place 103 = .ok (.iload 4, 2) := by decide +kernel
theorem dX9_place_105 : decode cX9_place 105 = .ok (.iload_n 1, 1) := by decide +kernel
theorem dX9_place_106 : decode cX9_place 106 = .ok (.aload_n 0, 1) := by decide +kernel
theorem dX9_place_107 : decode cX9_place 107 = .ok (.getfield 15, 3) := by decide +kernel
theorem dX9_place_110 : decode cX9_place 110 = .ok (.iload 4, 2) := by decide +kernel
theorem dX9_place_112 : decode cX9_place 112 = .ok (.iaload, 1) := by decide +kernel
theorem dX9_place_113 : decode cX9_place 113 = .ok (.iload_n 3, 1) := by decide +kernel
theorem dX9_place_114 : decode cX9_place 114 = .ok (.invokevirtual 114, 3) := by decide +kernel
theorem dX9_place_117 : decode cX9_place 117 = .ok (.iastore, 1) := by decide +kernel
theorem dX9_place_118 : decode cX9_place 118 = .ok (.iinc 4 1, 3) := by decide +kernel
theorem dX9_place_121 : decode cX9_place 121 = .ok (.goto (-31), 3) := by decide +kernel
theorem dX9_place_124 : decode cX9_place 124 = .ok (.aload_n 0, 1) := by decide +kernel
theorem dX9_place_125 : decode cX9_place 125 = .ok (.iload_n 1, 1) := by decide +kernel
theorem dX9_place_126 : decode cX9_place 126 = .ok (.invokevirtual 134, 3) := by decide +kernel
theorem dX9_place_129 : decode cX9_place 129 = .ok (.aload_n 0, 1) := by decide +kernel
theorem dX9_place_130 : decode cX9_place 130 = .ok (.iload_n 1, 1) := by decide +kernel
theorem dX9_place_131 : decode cX9_place 131 = .ok (.iconst 1, 1) := by decide +kernel
theorem dX9_place_132 : decode cX9_place 132 = .ok (.iadd, 1) := by decide +kernel
theorem dX9_place_133 : decode cX9_place 133 = .ok (.iload_n 2, 1) := by decide +kernel
theorem dX9_place_134 : decode cX9_place 134 = .ok (.iconst 1, 1) := by decide +kernel
theorem dX9_place_135 : decode cX9_place 135 = .ok (.iload_n 3, 1) := by decide +kernel
theorem dX9_place_136 : decode cX9_place 136 = .ok (.ishl, 1) := by decide +kernel
theorem dX9_place_137 : decode cX9_place 137 = .ok (.ior, 1) := by decide +kernel
theorem dX9_place_138 : decode cX9_place 138 = .ok (.invokevirtual 64, 3) := by decide +kernel
theorem dX9_place_141 : decode cX9_place 141 = .ok (.iinc 3 1, 3) := by decide +kernel
theorem dX9_place_144 : decode cX9_place 144 = .ok (.goto (-83), 3) := by decide +kernel
theorem dX9_place_147 : decode cX9_place 147 = .ok (.return_, 1) := by decide +kernel
theorem dX9_hopedBehind_0 : decode cX9_hopedBehind 0 = .ok (.iload_n 1, 1) := by decide +kernel
theorem dX9_hopedBehind_1 : decode cX9_hopedBehind 1 = .ok (.istore_n 2, 1) := by decide +kernel
theorem dX9_hopedBehind_2 : decode cX9_hopedBehind 2 = .ok (.iload_n 2, 1) := by decide +kernel
theorem dX9_hopedBehind_3 : decode cX9_hopedBehind 3 = .ok (.aload_n 0, 1) := by decide +kernel
theorem dX9_hopedBehind_4 : decode cX9_hopedBehind 4 = .ok (.getfield 39, 3) := by decide +kernel
theorem dX9_hopedBehind_7 : decode cX9_hopedBehind 7 = .ok (.getfield 92, 3) := by decide +kernel
theorem dX9_hopedBehind_10 : decode cX9_hopedBehind 10 = .ok (.if_icmp .ge 72, 3) := by decide +kernel
theorem dX9_hopedBehind_13 : decode cX9_hopedBehind 13 = .ok (.iconst 0, 1) := by decide +kernel
theorem dX9_hopedBehind_14 : decode cX9_hopedBehind 14 = .ok (.istore_n 3, 1) := by decide +kernel
theorem dX9_hopedBehind_15 : decode cX9_hopedBehind 15 = .ok (.iload_n 3, 1) := by decide +kernel
theorem dX9_hopedBehind_16 : decode cX9_hopedBehind 16 = .ok (.iload_n 2, 1) := by decide +kernel
theorem dX9_hopedBehind_17 : decode cX9_hopedBehind 17 = .ok (.if_icmp .ge 54, 3) := by decide +kernel
theorem dX9_hopedBehind_20 : decode cX9_hopedBehind 20 = .ok (.iload_n 3, 1) := by decide +kernel
theorem dX9_hopedBehind_21 : decode cX9_hopedBehind 21 = .ok (.iconst 5, 1) := by decide +kernel
theorem dX9_hopedBehind_22 : decode cX9_hopedBehind 22 = .ok (.imul, 1) := by decide +kernel
theorem dX9_hopedBehind_23 : decode cX9_hopedBehind 23 = .ok (.iload_n 2, 1) := by decide +kernel
theorem dX9_hopedBehind_24 : decode cX9_hopedBehind 24 = .ok (.iadd, 1) := by decide +kernel
theorem dX9_hopedBehind_25 : decode cX9_hopedBehind 25 = .ok (.istore 4, 2) := by decide +kernel
theorem dX9_hopedBehind_27 : decode cX9_hopedBehind 27 = .ok (.aload_n 0, 1) := by decide +kernel
theorem dX9_hopedBehind_28 : decode cX9_hopedBehind 28 = .ok (.getfield 33, 3) := by decide +kernel
theorem dX9_hopedBehind_31 : decode cX9_hopedBehind 31 = .ok (.iload_n 3, 1) := by decide +kernel
theorem dX9_hopedBehind_32 : decode cX9_hopedBehind 32 = .ok (.iload_n 3, 1) := by decide +kernel
theorem dX9_hopedBehind_33 : decode cX9_hopedBehind 33 = .ok (.iload_n 1, 1) := by decide +kernel
theorem dX9_hopedBehind_34 : decode cX9_hopedBehind 34 = .ok (.if_icmp .ge 23, 3) := by decide +kernel
theorem dX9_hopedBehind_37 : decode cX9_hopedBehind 37 = .ok (.aload_n 0, 1) := by decide +kernel
theorem dX9_hopedBehind_38 : decode cX9_hopedBehind 38 = .ok (.getfield 24, 3) := by decide +kernel
theorem dX9_hopedBehind_41 : decode cX9_hopedBehind 41 = .ok (.iload 4, 2) := by decide +kernel
theorem dX9_hopedBehind_43 : decode cX9_hopedBehind 43 = .ok (.bipush 10, 2) := by decide +kernel
theorem dX9_hopedBehind_45 : decode cX9_hopedBehind 45 = .ok (.imul, 1) := by decide +kernel
theorem dX9_hopedBehind_46 : decode cX9_hopedBehind 46 = .ok (.aload_n 0, 1) := by decide +kernel
theorem dX9_hopedBehind_47 : decode cX9_hopedBehind 47 = .ok (.getfield 15, 3) := by decide +kernel
theorem dX9_hopedBehind_50 : decode cX9_hopedBehind 50 = .ok (.iload_n 3, 1) := by decide +kernel
theorem dX9_hopedBehind_51 : decode cX9_hopedBehind 51 = .ok (.iaload, 1) := by decide +kernel
theorem dX9_hopedBehind_52 : decode cX9_hopedBehind 52 = .ok (.iadd, 1) := by decide +kernel
theorem dX9_hopedBehind_53 : decode cX9_hopedBehind 53 = .ok (.iaload, 1) := by decide +kernel
theorem dX9_hopedBehind_54 : decode cX9_hopedBehind 54 = .ok (.goto 10, 3) := by decide +kernel
theorem dX9_hopedBehind_57 : decode cX9_hopedBehind 57 = .ok (.aload_n 0, 1) := by decide +kernel
theorem dX9_hopedBehind_58 : decode cX9_hopedBehind 58 = .ok (.getfield 21, 3) := by decide +kernel
theorem dX9_hopedBehind_61 : decode cX9_hopedBehind 61 = .ok (.iload 4, 2) := by decide +kernel
theorem dX9_hopedBehind_63 : decode cX9_hopedBehind 63 = .ok (.iaload, 1) := by decide +kernel
theorem dX9_hopedBehind_64 : decode cX9_hopedBehind 64 = .ok (.iastore, 1) := by decide +kernel
theorem dX9_hopedBehind_65 : decode cX9_hopedBehind 65 = .ok (.iinc 3 1, 3) := by decide +kernel
theorem dX9_hopedBehind_68 : decode cX9_hopedBehind 68 = .ok (.goto (-53), 3) := by decide +kernel
theorem dX9_hopedBehind_71 : decode cX9_hopedBehind 71 = .ok (.aload_n 0, 1) := by decide +kernel
theorem dX9_hopedBehind_72 : decode cX9_hopedBehind 72 = .ok (.iload_n 2, 1) := by decide +kernel
theorem dX9_hopedBehind_73 : decode cX9_hopedBehind 73 = .ok (.invokevirtual 134, 3) := by decide +kernel
theorem dX9_hopedBehind_76 : decode cX9_hopedBehind 76 = .ok (.iinc 2 1, 3) := by decide +kernel
theorem dX9_hopedBehind_79 : decode cX9_hopedBehind 79 = .ok (.goto (-77), 3) := by decide +kernel
theorem dX9_hopedBehind_82 : decode cX9_hopedBehind 82 = .ok (.aload_n 0, 1) := by decide +kernel
theorem dX9_hopedBehind_83 : decode cX9_hopedBehind 83 = .ok (.getfield 36, 3) := by decide +kernel
theorem dX9_hopedBehind_86 : decode cX9_hopedBehind 86 = .ok (.iconst 1, 1) := by decide +kernel
theorem dX9_hopedBehind_87 : decode cX9_hopedBehind 87 = .ok (.aload_n 0, 1) := by decide +kernel
theorem dX9_hopedBehind_88 : decode cX9_hopedBehind 88 = .ok (.getfield 39, 3) := by decide +kernel
theorem dX9_hopedBehind_91 : decode cX9_hopedBehind 91 = .ok (.getfield 92, 3) := by decide +kernel
theorem dX9_hopedBehind_94 : decode cX9_hopedBehind 94 = .ok (.ishl, 1) := by decide +kernel
theorem dX9_hopedBehind_95 : decode cX9_hopedBehind 95 = .ok (.iconst 1, 1) := by decide +kernel
theorem dX9_hopedBehind_96 : decode cX9_hopedBehind 96 = .ok (.isub, 1) := by decide +kernel
theorem dX9_hopedBehind_97 : decode cX9_hopedBehind 97 = .ok (.iaload, 1) := by decide +kernel
theorem dX9_hopedBehind_98 : decode cX9_hopedBehind 98 = .ok (.ireturn, 1) := by decide +kernel
theorem dX9_spread_0 : decode cX9_spread 0 = .ok (.iconst 1, 1) := by decide +kernel
theorem dX9_spread_1 : decode cX9_spread 1 = .ok (.iload_n 1, 1) := by decide +kernel
theorem dX9_spread_2 : decode cX9_spread 2 = .ok (.ishl, 1) := by decide +kernel
theorem dX9_spread_3 : decode cX9_spread 3 = .ok (.istore_n 2, 1) := by decide +kernel
theorem dX9_spread_4 : decode cX9_spread 4 = .ok (.iload_n 1, 1) := by decide +kernel
theorem dX9_spread_5 : decode cX9_spread 5 = .ok (.aload_n 0, 1) := by decide +kernel
theorem dX9_spread_6 : decode cX9_spread 6 = .ok (.getfield 39, 3) := by decide +kernel
theorem dX9_spread_9 : decode cX9_spread 9 = .ok (.getfield 92, 3) := by decide +kernel
theorem dX9_spread_12 : decode cX9_spread 12 = .ok (.iconst 1, 1) := by decide +kernel
theorem dX9_spread_13 : decode cX9_spread 13 = .ok (.isub, 1) := by decide +kernel
theorem dX9_spread_14 : decode cX9_spread 14 = .ok (.if_icmp .ne 9, 3) := by decide +kernel
theorem dX9_spread_17 : decode cX9_spread 17 = .ok (.iload_n 2, 1) := by decide +kernel
theorem dX9_spread_18 : decode cX9_spread 18 = .ok (.iconst 1, 1) := by decide +kernel
theorem dX9_spread_19 : decode cX9_spread 19 = .ok (.isub, 1) := by decide +kernel
theorem dX9_spread_20 : decode cX9_spread 20 = .ok (.goto 4, 3) := by decide +kernel
theorem dX9_spread_23 : decode cX9_spread 23 = .ok (.iconst 0, 1) := by decide +kernel
theorem dX9_spread_24 : decode cX9_spread 24 = .ok (.istore_n 3, 1) := by decide +kernel
theorem dX9_spread_25 : decode cX9_spread 25 = .ok (.iload_n 3, 1) := by decide +kernel
theorem dX9_spread_26 : decode cX9_spread 26 = .ok (.istore 4, 2) := by decide +kernel
theorem dX9_spread_28 : decode cX9_spread 28 = .ok (.iload 4, 2) := by decide +kernel
theorem dX9_spread_30 : decode cX9_spread 30 = .ok (.iload_n 2, 1) := by decide +kernel
theorem dX9_spread_31 : decode cX9_spread 31 = .ok (.if_icmp .ge 91, 3) := by decide +kernel
theorem dX9_spread_34 : decode cX9_spread 34 = .ok (.aload_n 0, 1) := by decide +kernel
theorem dX9_spread_35 : decode cX9_spread 35 = .ok (.getfield 36, 3) := by decide +kernel
theorem dX9_spread_38 : decode cX9_spread 38 = .ok (.iload 4, 2) := by decide +kernel
theorem dX9_spread_40 : decode cX9_spread 40 = .ok (.iaload, 1) := by decide +kernel
theorem dX9_spread_41 : decode cX9_spread 41 = .ok (.istore 5, 2) := by decide +kernel
theorem dX9_spread_43 : decode cX9_spread 43 = .ok (.iconst 0, 1) := by decide +kernel
theorem dX9_spread_44 : decode cX9_spread 44 = .ok (.istore 6, 2) := by decide +kernel
theorem dX9_spread_46 : decode cX9_spread 46 = .ok (.iload 6, 2) := by decide +kernel
theorem dX9_spread_48 : decode cX9_spread 48 = .ok (.iload_n 1, 1) := by decide +kernel
theorem dX9_spread_49 : decode cX9_spread 49 = .ok (.if_icmp .ge 56, 3) := by decide +kernel
theorem dX9_spread_52 : decode cX9_spread 52 = .ok (.iload 4, 2) := by decide +kernel
theorem dX9_spread_54 : decode cX9_spread 54 = .ok (.iload 6, 2) := by decide +kernel
theorem dX9_spread_56 : decode cX9_spread 56 = .ok (.invokestatic 121, 3) := by decide +kernel
theorem dX9_spread_59 : decode cX9_spread 59 = .ok (.ifCond .eq 40, 3) := by decide +kernel
theorem dX9_spread_62 : decode cX9_spread 62 = .ok (.aload_n 0, 1) := by decide +kernel
theorem dX9_spread_63 : decode cX9_spread 63 = .ok (.getfield 33, 3) := by decide +kernel
theorem dX9_spread_66 : decode cX9_spread 66 = .ok (.iload 6, 2) := by decide +kernel
theorem dX9_spread_68 : decode cX9_spread 68 = .ok (.iaload, 1) := by decide +kernel
theorem dX9_spread_69 : decode cX9_spread 69 = .ok (.ifCond .le 30, 3) := by decide +kernel
theorem dX9_spread_72 : decode cX9_spread 72 = .ok (.iload 5, 2) := by decide +kernel
theorem dX9_spread_74 : decode cX9_spread 74 = .ok (.aload_n 0, 1) := by decide +kernel
theorem dX9_spread_75 : decode cX9_spread 75 = .ok (.getfield 36, 3) := by decide +kernel
theorem dX9_spread_78 : decode cX9_spread 78 = .ok (.iload 4, 2) := by decide +kernel
theorem dX9_spread_80 : decode cX9_spread 80 = .ok (.iconst 1, 1) := by decide +kernel
theorem dX9_spread_81 : decode cX9_spread 81 = .ok (.iload 6, 2) := by decide +kernel
theorem dX9_spread_83 : decode cX9_spread 83 = .ok (.ishl, 1) := by decide +kernel
theorem dX9_spread_84 : decode cX9_spread 84 = .ok (.ixor, 1) := by decide +kernel
theorem dX9_spread_85 : decode cX9_spread 85 = .ok (.iaload, 1) := by decide +kernel
theorem dX9_spread_86 : decode cX9_spread 86 = .ok (.aload_n 0, 1) := by decide +kernel
theorem dX9_spread_87 : decode cX9_spread 87 = .ok (.getfield 33, 3) := by decide +kernel
theorem dX9_spread_90 : decode cX9_spread 90 = .ok (.iload 6, 2) := by decide +kernel
theorem dX9_spread_92 : decode cX9_spread 92 = .ok (.iaload, 1) := by decide +kernel
theorem dX9_spread_93 : decode cX9_spread 93 = .ok (.iadd, 1) := by decide +kernel
theorem dX9_spread_94 : decode cX9_spread 94 = .ok (.invokestatic 109, 3) := by decide +kernel
theorem dX9_spread_97 : decode cX9_spread 97 = .ok (.istore 5, 2) := by decide +kernel
theorem dX9_spread_99 : decode cX9_spread 99 = .ok (.iinc 6 1, 3) := by decide +kernel
theorem dX9_spread_102 : decode cX9_spread 102 = .ok (.goto (-56), 3) := by decide +kernel
theorem dX9_spread_105 : decode cX9_spread 105 = .ok (.aload_n 0, 1) := by decide +kernel
theorem dX9_spread_106 : decode cX9_spread 106 = .ok (.getfield 36, 3) := by decide +kernel
theorem dX9_spread_109 : decode cX9_spread 109 = .ok (.iload 4, 2) := by decide +kernel
theorem dX9_spread_111 : decode cX9_spread 111 = .ok (.iload_n 2, 1) := by decide +kernel
theorem dX9_spread_112 : decode cX9_spread 112 = .ok (.ior, 1) := by decide +kernel
theorem dX9_spread_113 : decode cX9_spread 113 = .ok (.iload 5, 2) := by decide +kernel
theorem dX9_spread_115 : decode cX9_spread 115 = .ok (.iastore, 1) := by decide +kernel
theorem dX9_spread_116 : decode cX9_spread 116 = .ok (.iinc 4 1, 3) := by decide +kernel
theorem dX9_spread_119 : decode cX9_spread 119 = .ok (.goto (-91), 3) := by decide +kernel
theorem dX9_spread_122 : decode cX9_spread 122 = .ok (.return_, 1) := by decide +kernel
theorem dX10_init_0 : decode cX10_init 0 = .ok (.aload_n 0, 1) := by decide +kernel
theorem dX10_init_1 : decode cX10_init 1 = .ok (.invokespecial 3, 3) := by decide +kernel
theorem dX10_init_4 : decode cX10_init 4 = .ok (.new 9, 3) := by decide +kernel
theorem dX10_init_7 : decode cX10_init 7 = .ok (.dup, 1) := by decide +kernel
theorem dX10_init_8 : decode cX10_init 8 = .ok (.invokespecial 11, 3) := by decide +kernel
theorem dX10_init_11 : decode cX10_init 11 = .ok (.astore_n 1, 1) := by decide +kernel
theorem dX10_init_12 : decode cX10_init 12 = .ok (.new 12, 3) := by decide +kernel
theorem dX10_init_15 : decode cX10_init 15 = .ok (.dup, 1) := by decide +kernel
theorem dX10_init_16 : decode cX10_init 16 = .ok (.invokespecial 14, 3) := by decide +kernel
theorem dX10_init_19 : decode cX10_init 19 = .ok (.astore_n 2, 1) := by decide +kernel
theorem dX10_init_20 : decode cX10_init 20 = .ok (.aload_n 0, 1) := by decide +kernel
theorem dX10_init_21 : decode cX10_init 21 = .ok (.new 15, 3) := by decide +kernel
theorem dX10_init_24 : decode cX10_init 24 = .ok (.dup, 1) := by decide +kernel
theorem dX10_init_25 : decode cX10_init 25 = .ok (.invokespecial 17, 3) := by decide +kernel
theorem dX10_init_28 : decode cX10_init 28 = .ok (.putfield 18, 3) := by decide +kernel
theorem dX10_init_31 : decode cX10_init 31 = .ok (.aload_n 0, 1) := by decide +kernel
theorem dX10_init_32 : decode cX10_init 32 = .ok (.aload_n 1, 1) := by decide +kernel
theorem dX10_init_33 : decode cX10_init 33 = .ok (.putfield 22, 3) := by decide +kernel
theorem dX10_init_36 : decode cX10_init 36 = .ok (.aload_n 0, 1) := by decide +kernel
theorem dX10_init_37 : decode cX10_init 37 = .ok (.aload_n 2, 1) := by decide +kernel
theorem dX10_init_38 : decode cX10_init 38 = .ok (.putfield 26, 3) := by decide +kernel
theorem dX10_init_41 : decode cX10_init 41 = .ok (.aload_n 0, 1) := by decide +kernel
theorem dX10_init_42 : decode cX10_init 42 = .ok (.new 30, 3) := by decide +kernel
theorem dX10_init_45 : decode cX10_init 45 = .ok (.dup, 1) := by decide +kernel
theorem dX10_init_46 : decode cX10_init 46 = .ok (.aload_n 1, 1) := by decide +kernel
theorem dX10_init_47 : decode cX10_init 47 = .ok (.aload_n 2, 1) := by decide +kernel
theorem dX10_init_48 : decode cX10_init 48 = .ok (.invokespecial 32, 3) := by decide +kernel
theorem dX10_init_51 : decode cX10_init 51 = .ok (.putfield 35, 3) := by decide +kernel
theorem dX10_init_54 : decode cX10_init 54 = .ok (.aload_n 0, 1) := by decide +kernel
theorem dX10_init_55 : decode cX10_init 55 = .ok (.new 39, 3) := by decide +kernel
theorem dX10_init_58 : decode cX10_init 58 = .ok (.dup, 1) := by decide +kernel
theorem dX10_init_59 : decode cX10_init 59 = .ok (.aload_n 1, 1) := by decide +kernel
theorem dX10_init_60 : decode cX10_init 60 = .ok (.aload_n 2, 1) := by decide +kernel
theorem dX10_init_61 : decode cX10_init 61 = .ok (.invokespecial 41, 3) := by decide +kernel
theorem dX10_init_64 : decode cX10_init 64 = .ok (.putfield 42, 3) := by decide +kernel
theorem dX10_init_67 : decode cX10_init 67 = .ok (.aload_n 0, 1) := by decide +kernel
theorem dX10_init_68 : decode cX10_init 68 = .ok (.new 46, 3) := by decide +kernel
theorem dX10_init_71 : decode cX10_init 71 = .ok (.dup, 1) := by decide +kernel
theorem dX10_init_72 : decode cX10_init 72 = .ok (.invokespecial 48, 3) := by decide +kernel
theorem dX10_init_75 : decode cX10_init 75 = .ok (.putfield 49, 3) := by decide +kernel
theorem dX10_init_78 : decode cX10_init 78 = .ok (.aload_n 0, 1) := by decide +kernel
theorem dX10_init_79 : decode cX10_init 79 = .ok (.new 53, 3) := by decide +kernel
theorem dX10_init_82 : decode cX10_init 82 = .ok (.dup, 1) := by decide +kernel
theorem dX10_init_83 : decode cX10_init 83 = .ok (.aload_n 1, 1) := by decide +kernel
theorem dX10_init_84 : decode cX10_init 84 = .ok (.invokespecial 55, 3) := by decide +kernel
theorem dX10_init_87 : decode cX10_init 87 = .ok (.putfield 58, 3) := by decide +kernel
theorem dX10_init_90 : decode cX10_init 90 = .ok (.aload_n 0, 1) := by decide +kernel
theorem dX10_init_91 : decode cX10_init 91 = .ok (.new 62, 3) := by decide +kernel
theorem dX10_init_94 : decode cX10_init 94 = .ok (.dup, 1) := by decide +kernel
theorem dX10_init_95 : decode cX10_init 95 = .ok (.invokespecial 64, 3) := by decide +kernel
theorem dX10_init_98 : decode cX10_init 98 = .ok (.putfield 65, 3) := by decide +kernel
theorem dX10_init_101 : decode cX10_init 101 = .ok (.aload_n 0, 1) := by decide +kernel
theorem dX10_init_102 : decode cX10_init 102 = .ok (.iconst 3, 1) := by decide +kernel
theorem dX10_init_103 : decode cX10_init 103 = .ok (.anewarray 12, 3) := by decide +kernel
theorem dX10_init_106 : decode cX10_init 106 = .ok (.putfield 69, 3) := by decide +kernel
theorem dX10_init_109 : decode cX10_init 109 = .ok (.iconst 0, 1) := by decide +kernel
theorem dX10_init_110 : decode cX10_init 110 = .ok (.istore_n 3, 1) := by decide +kernel
theorem dX10_init_111 : decode cX10_init 111 = .ok (.iload_n 3, 1) := by decide +kernel
theorem dX10_init_112 : decode cX10_init 112 = .ok (.iconst 3, 1) := by decide +kernel
theorem dX10_init_113 : decode cX10_init 113 = .ok (.if_icmp .ge 22, 3) := by decide +kernel
theorem dX10_init_116 : decode cX10_init 116 = .ok (.aload_n 0, 1) := by decide +kernel
theorem dX10_init_117 : decode cX10_init 117 = .ok (.getfield 69, 3) := by decide +kernel
theorem dX10_init_120 : decode cX10_init 120 = .ok (.iload_n 3, 1) := by decide +kernel
theorem dX10_init_121 : decode cX10_init 121 = .ok (.new 12, 3) := by decide +kernel
theorem dX10_init_124 : decode cX10_init 124 = .ok (.dup, 1) := by decide +kernel
theorem dX10_init_125 : decode cX10_init 125 = .ok (.invokespecial 14, 3) := by decide +kernel
theorem dX10_init_128 : decode cX10_init 128 = .ok (.aastore, 1) := by decide +kernel
theorem dX10_init_129 : decode cX10_init 129 = .ok (.iinc 3 1, 3) := by decide +kernel
theorem dX10_init_132 : decode cX10_init 132 = .ok (.goto (-21), 3) := by decide +kernel
theorem dX10_init_135 : decode cX10_init 135 = .ok (.return_, 1) := by decide +kernel
theorem dX10_feed_0 : decode cX10_feed 0 = .ok (.aload_n 0, 1) := by decide +kernel
theorem dX10_feed_1 : decode cX10_feed 1 = .ok (.getfield 18, 3) := by decide +kernel
theorem dX10_feed_4 : decode cX10_feed 4 = .ok (.getfield 73, 3) := by decide +kernel
theorem dX10_feed_7 : decode cX10_feed 7 = .ok (.astore 6, 2) := by decide +kernel
theorem dX10_feed_9 : decode cX10_feed 9 = .ok (.aload 6, 2) := by decide +kernel
theorem dX10_feed_11 : decode cX10_feed 11 = .ok (.getfield 77, 3) := by decide +kernel
theorem dX10_feed_14 : decode cX10_feed 14 = .ok (.sipush 780, 3) := by decide +kernel
theorem dX10_feed_17 : decode cX10_feed 17 = .ok (.if_icmp .le 5, 3) := by decide +kernel
theorem dX10_feed_20 : decode cX10_feed 20 = .ok (.iconst (-1), 1) := by decide +kernel
theorem dX10_feed_21 : decode cX10_feed 21 = .ok (.ireturn, 1) := by decide +kernel
theorem dX10_feed_22 : decode cX10_feed 22 = .ok (.aload 6, 2) := by decide +kernel
theorem dX10_feed_24 : decode cX10_feed 24 = .ok (.iload_n 1, 1) := by decide +kernel
theorem dX10_feed_25 : decode cX10_feed 25 = .ok (.invokevirtual 83, 3) := by decide +kernel
theorem dX10_feed_28 : decode cX10_feed 28 = .ok (.aload 6, 2) := by decide +kernel
theorem dX10_feed_30 : decode cX10_feed 30 = .ok (.iload_n 2, 1) := by decide +kernel
theorem dX10_feed_31 : decode cX10_feed 31 = .ok (.invokevirtual 83, 3) := by decide +kernel
theorem dX10_feed_34 : decode cX10_feed 34 = .ok (.aload 6, 2) := by decide +kernel
theorem dX10_feed_36 : decode cX10_feed 36 = .ok (.iload_n 3, 1) := by decide +kernel
theorem dX10_feed_37 : decode cX10_feed 37 = .ok (.invokevirtual 83, 3) := by decide +kernel
theorem dX10_feed_40 : decode cX10_feed 40 = .ok (.aload 6, 2) := by decide +kernel
theorem dX10_feed_42 : decode cX10_feed 42 = .ok (.iload 4, 2) := by decide +kernel
theorem dX10_feed_44 : decode cX10_feed 44 = .ok (.invokevirtual 83, 3) := by decide +kernel
theorem dX10_feed_47 : decode cX10_feed 47 = .ok (.aload 6, 2) := by decide +kernel
theorem dX10_feed_49 : decode cX10_feed 49 = .ok (.iload 5, 2) := by decide +kernel
theorem dX10_feed_51 : decode cX10_feed 51 = .ok (.invokevirtual 83, 3) := by decide +kernel
theorem dX10_feed_54 : decode cX10_feed 54 = .ok (.aload 6, 2) := by decide +kernel
theorem dX10_feed_56 : decode cX10_feed 56 = .ok (.getfield 77, 3) := by decide +kernel
theorem dX10_feed_59 : decode cX10_feed 59 = .ok (.ireturn, 1) := by decide +kernel
theorem dX10_table_0 : decode cX10_table 0 = .ok (.iload_n 1, 1) := by decide +kernel
theorem dX10_table_1 : decode cX10_table 1 = .ok (.ifCond .lt 17, 3) := by decide +kernel
theorem dX10_table_4 : decode cX10_table 4 = .ok (.iload_n 1, 1) := by decide +kernel
theorem dX10_table_5 : decode cX10_table 5 = .ok (.aload_n 0, 1) := by decide +kernel
theorem dX10_table_6 : decode cX10_table 6 = .ok (.getfield 18, 3) := by decide +kernel
theorem dX10_table_9 : decode cX10_table 9 = .ok (.getfield 73, 3) := by decide +kernel
theorem dX10_table_12 : decode cX10_table 12 = .ok (.getfield 77, 3) := by decide +kernel
theorem dX10_table_15 : decode cX10_table 15 = .ok (.if_icmp .le 9, 3) := by decide +kernel
theorem dX10_table_18 : decode cX10_table 18 = .ok (.aload_n 0, 1) := by decide +kernel
theorem dX10_table_19 : decode cX10_table 19 = .ok (.iconst 2, 1) := by decide +kernel
theorem dX10_table_20 : decode cX10_table 20 = .ok (.invokevirtual 87, 3) := by decide +kernel
theorem dX10_table_23 : decode cX10_table 23 = .ok (.ireturn, 1) := by decide +kernel
theorem dX10_table_24 : decode cX10_table 24 = .ok (.aload_n 0, 1) := by decide +kernel
theorem dX10_table_25 : decode cX10_table 25 = .ok (.getfield 18, 3) := by decide +kernel
theorem dX10_table_28 : decode cX10_table 28 = .ok (.iload_n 1, 1) := by decide +kernel
theorem dX10_table_29 : decode cX10_table 29 = .ok (.invokevirtual 91, 3) := by decide +kernel
theorem dX10_table_32 : decode cX10_table 32 = .ok (.istore_n 2, 1) := by decide +kernel
theorem dX10_table_33 : decode cX10_table 33 = .ok (.aload_n 0, 1) := by decide +kernel
theorem dX10_table_34 : decode cX10_table 34 = .ok (.getfield 18, 3) := by decide +kernel
theorem dX10_table_37 : decode cX10_table 37 = .ok (.getfield 73, 3) := by decide +kernel
theorem dX10_table_40 : decode cX10_table 40 = .ok (.iconst 0, 1) := by decide +kernel
theorem dX10_table_41 : decode cX10_table 41 = .ok (.putfield 77, 3) := by decide +kernel
theorem dX10_table_44 : decode cX10_table 44 = .ok (.aload_n 0, 1) := by decide +kernel
theorem dX10_table_45 : decode cX10_table 45 = .ok (.aload_n 0, 1) := by decide +kernel
theorem dX10_table_46 : decode cX10_table 46 = .ok (.getfield 18, 3) := by decide +kernel
theorem dX10_table_49 : decode cX10_table 49 = .ok (.getfield 95, 3) := by decide +kernel
theorem dX10_table_52 : decode cX10_table 52 = .ok (.putfield 98, 3) := by decide +kernel
theorem dX10_table_55 : decode cX10_table 55 = .ok (.aload_n 0, 1) := by decide +kernel
theorem dX10_table_56 : decode cX10_table 56 = .ok (.aload_n 0, 1) := by decide +kernel
theorem dX10_table_57 : decode cX10_table 57 = .ok (.getfield 18, 3) := by decide +kernel
theorem dX10_table_60 : decode cX10_table 60 = .ok (.getfield 101, 3) := by decide +kernel
theorem dX10_table_63 : decode cX10_table 63 = .ok (.putfield 104, 3) := by decide +kernel
theorem dX10_table_66 : decode cX10_table 66 = .ok (.iload_n 2, 1) := by decide +kernel
theorem dX10_table_67 : decode cX10_table 67 = .ok (.ifCond .ne 9, 3) := by decide +kernel
theorem dX10_table_70 : decode cX10_table 70 = .ok (.aload_n 0, 1) := by decide +kernel
theorem dX10_table_71 : decode cX10_table 71 = .ok (.iconst 4, 1) := by decide +kernel
theorem dX10_table_72 : decode cX10_table 72 = .ok (.invokevirtual 87, 3) := by decide +kernel
theorem dX10_table_75 : decode cX10_table 75 = .ok (.ireturn, 1) := by decide +kernel
theorem dX10_table_76 : decode cX10_table 76 = .ok (.aload_n 0, 1) := by decide +kernel
theorem dX10_table_77 : decode cX10_table 77 = .ok (.iconst 0, 1) := by decide +kernel
theorem dX10_table_78 : decode cX10_table 78 = .ok (.putfield 107, 3) := by decide +kernel
theorem dX10_table_81 : decode cX10_table 81 = .ok (.aload_n 0, 1) := by decide +kernel
theorem dX10_table_82 : decode cX10_table 82 = .ok (.getfield 22, 3) := by decide +kernel
theorem dX10_table_85 : decode cX10_table 85 = .ok (.aload_n 0, 1) := by decide +kernel
theorem dX10_table_86 : decode cX10_table 86 = .ok (.getfield 18, 3) := by decide +kernel
theorem dX10_table_89 : decode cX10_table 89 = .ok (.getfield 110, 3) := by decide +kernel
theorem dX10_table_92 : decode cX10_table 92 = .ok (.invokevirtual 113, 3) := by decide +kernel
theorem dX10_table_95 : decode cX10_table 95 = .ok (.aload_n 0, 1) := by decide +kernel
theorem dX10_table_96 : decode cX10_table 96 = .ok (.getfield 26, 3) := by decide +kernel
theorem dX10_table_99 : decode cX10_table 99 = .ok (.aload_n 0, 1) := by decide +kernel
theorem dX10_table_100 : decode cX10_table 100 = .ok (.getfield 22, 3) := by decide +kernel
theorem dX10_table_103 : decode cX10_table 103 = .ok (.getfield 116, 3) := by decide +kernel
theorem dX10_table_106 : decode cX10_table 106 = .ok (.invokevirtual 119, 3) := by decide +kernel
theorem dX10_table_109 : decode cX10_table 109 = .ok (.aload_n 0, 1) := by decide +kernel
theorem dX10_table_110 : decode cX10_table 110 = .ok (.getfield 65, 3) := by decide +kernel
theorem dX10_table_113 : decode cX10_table 113 = .ok (.iconst 0, 1) := by decide +kernel
theorem dX10_table_114 : decode cX10_table 114 = .ok (.putfield 122, 3) := by decide +kernel
theorem dX10_table_117 : decode cX10_table 117 = .ok (.aload_n 0, 1) := by decide +kernel
theorem dX10_table_118 : decode cX10_table 118 = .ok (.iconst 0, 1) := by decide +kernel
theorem dX10_table_119 : decode cX10_table 119 = .ok (.putfield 125, 3) := by decide +kernel
theorem dX10_table_122 : decode cX10_table 122 = .ok (.aload_n 0, 1) := by decide +kernel
theorem dX10_table_123 : decode cX10_table 123 = .ok (.getfield 42, 3) := by decide +kernel
theorem dX10_table_126 : decode cX10_table 126 = .ok (.iconst 0, 1) := by decide +kernel
theorem dX10_table_127 : decode cX10_table 127 = .ok (.putfield 128, 3) := by decide +kernel
theorem dX10_table_130 : decode cX10_table 130 = .ok (.aload_n 0, 1) := by decide +kernel
theorem dX10_table_131 : decode cX10_table 131 = .ok (.getfield 22, 3) := by decide +kernel
theorem dX10_table_134 : decode cX10_table 134 = .ok (.getfield 132, 3) := by decide +kernel
theorem dX10_table_137 : decode cX10_table 137 = .ok (.ireturn, 1) := by decide +kernel
theorem dX10_fault_0 : decode cX10_fault 0 = .ok (.aload_n 0, 1) := by decide +kernel
theorem dX10_fault_1 : decode cX10_fault 1 = .ok (.getfield 98, 3) := by decide +kernel
theorem dX10_fault_4 : decode cX10_fault 4 = .ok (.ireturn, 1) := by decide +kernel
theorem dX10_where_0 : decode cX10_where 0 = .ok (.aload_n 0, 1) := by decide +kernel
theorem dX10_where_1 : decode cX10_where 1 = .ok (.getfield 107, 3) := by decide +kernel
theorem dX10_where_4 : decode cX10_where 4 = .ok (.iconst 4, 1) := by decide +kernel
theorem dX10_where_5 : decode cX10_where 5 = .ok (.if_icmp .ne 10, 3) := by decide +kernel
theorem dX10_where_8 : decode cX10_where 8 = .ok (.aload_n 0, 1) := by decide +kernel
theorem dX10_where_9 : decode cX10_where 9 = .ok (.getfield 104, 3) := by decide +kernel
theorem dX10_where_12 : decode cX10_where 12 = .ok (.goto 4, 3) := by decide +kernel
theorem dX10_where_15 : decode cX10_where 15 = .ok (.iconst (-1), 1) := by decide +kernel
theorem dX10_where_16 : decode cX10_where 16 = .ok (.ireturn, 1) := by decide +kernel
theorem dX10_seat_0 : decode cX10_seat 0 = .ok (.aload_n 0, 1) := by decide +kernel
theorem dX10_seat_1 : decode cX10_seat 1 = .ok (.iload_n 1, 1) := by decide +kernel
theorem dX10_seat_2 : decode cX10_seat 2 = .ok (.invokevirtual 135, 3) := by decide +kernel
theorem dX10_seat_5 : decode cX10_seat 5 = .ok (.ifCond .eq 7, 3) := by decide +kernel
theorem dX10_seat_8 : decode cX10_seat 8 = .ok (.iconst (-1), 1) := by decide +kernel
theorem dX10_seat_9 : decode cX10_seat 9 = .ok (.goto 12, 3) := by decide +kernel
theorem dX10_seat_12 : decode cX10_seat 12 = .ok (.aload_n 0, 1) := by decide +kernel
theorem dX10_seat_13 : decode cX10_seat 13 = .ok (.getfield 26, 3) := by decide +kernel
theorem dX10_seat_16 : decode cX10_seat 16 = .ok (.getfield 138, 3) := by decide +kernel
theorem dX10_seat_19 : decode cX10_seat 19 = .ok (.iload_n 1, 1) := by decide +kernel
theorem dX10_seat_20 : decode cX10_seat 20 = .ok (.iaload, 1) := by decide +kernel
theorem dX10_seat_21 : decode cX10_seat 21 = .ok (.ireturn, 1) := by decide +kernel
theorem dX10_pair_0 : decode cX10_pair 0 = .ok (.aload_n 0, 1) := by decide +kernel
theorem dX10_pair_1 : decode cX10_pair 1 = .ok (.iload_n 1, 1) := by decide +kernel
theorem dX10_pair_2 : decode cX10_pair 2 = .ok (.invokevirtual 142, 3) := by decide +kernel
theorem dX10_pair_5 : decode cX10_pair 5 = .ok (.ifCond .eq 5, 3) := by decide +kernel
theorem dX10_pair_8 : decode cX10_pair 8 = .ok (.iconst (-1), 1) := by decide +kernel
theorem dX10_pair_9 : decode cX10_pair 9 = .ok (.ireturn, 1) := by decide +kernel
theorem dX10_pair_10 : decode cX10_pair 10 = .ok (.iload_n 2, 1) := by decide +kernel
theorem dX10_pair_11 : decode cX10_pair 11 = .ok (.tableswitch 163 0 7 #[45, 55, 65, 75, 84, 94, 104, 118], 45) := by decide +kernel
theorem dX10_pair_56 : decode cX10_pair 56 = .ok (.aload_n 0, 1) := by decide +kernel
theorem dX10_pair_57 : decode cX10_pair 57 = .ok (.getfield 26, 3) := by decide +kernel
theorem dX10_pair_60 : decode cX10_pair 60 = .ok (.getfield 145, 3) := by decide +kernel
theorem dX10_pair_63 : decode cX10_pair 63 = .ok (.iload_n 1, 1) := by decide +kernel
theorem dX10_pair_64 : decode cX10_pair 64 = .ok (.iaload, 1) := by decide +kernel
theorem dX10_pair_65 : decode cX10_pair 65 = .ok (.ireturn, 1) := by decide +kernel
theorem dX10_pair_66 : decode cX10_pair 66 = .ok (.aload_n 0, 1) := by decide +kernel
theorem dX10_pair_67 : decode cX10_pair 67 = .ok (.getfield 26, 3) := by decide +kernel
theorem dX10_pair_70 : decode cX10_pair 70 = .ok (.getfield 148, 3) := by decide +kernel
theorem dX10_pair_73 : decode cX10_pair 73 = .ok (.iload_n 1, 1) := by decide +kernel
theorem dX10_pair_74 : decode cX10_pair 74 = .ok (.iaload, 1) := by decide +kernel
theorem dX10_pair_75 : decode cX10_pair 75 = .ok (.ireturn, 1) := by decide +kernel
theorem dX10_pair_76 : decode cX10_pair 76 = .ok (.aload_n 0, 1) := by decide +kernel
theorem dX10_pair_77 : decode cX10_pair 77 = .ok (.getfield 26, 3) := by decide +kernel
theorem dX10_pair_80 : decode cX10_pair 80 = .ok (.getfield 151, 3) := by decide +kernel
theorem dX10_pair_83 : decode cX10_pair 83 = .ok (.iload_n 1, 1) := by decide +kernel
theorem dX10_pair_84 : decode cX10_pair 84 = .ok (.iaload, 1) := by decide +kernel
theorem dX10_pair_85 : decode cX10_pair 85 = .ok (.ireturn, 1) := by decide +kernel
theorem dX10_pair_86 : decode cX10_pair 86 = .ok (.aload_n 0, 1) := by decide +kernel
theorem dX10_pair_87 : decode cX10_pair 87 = .ok (.getfield 26, 3) := by decide +kernel
theorem dX10_pair_90 : decode cX10_pair 90 = .ok (.iload_n 1, 1) := by decide +kernel
theorem dX10_pair_91 : decode cX10_pair 91 = .ok (.invokevirtual 154, 3) := by decide +kernel
theorem dX10_pair_94 : decode cX10_pair 94 = .ok (.ireturn, 1) := by decide +kernel
theorem dX10_pair_95 : decode cX10_pair 95 = .ok (.aload_n 0, 1) := by decide +kernel
theorem dX10_pair_96 : decode cX10_pair 96 = .ok (.getfield 26, 3) := by decide +kernel
theorem dX10_pair_99 : decode cX10_pair 99 = .ok (.getfield 157, 3) := by decide +kernel
theorem dX10_pair_102 : decode cX10_pair 102 = .ok (.iload_n 1, 1) := by decide +kernel
theorem dX10_pair_103 : decode cX10_pair 103 = .ok (.iaload, 1) := by decide +kernel
theorem dX10_pair_104 : decode cX10_pair 104 = .ok (.ireturn, 1) := by decide +kernel
theorem dX10_pair_105 : decode cX10_pair 105 = .ok (.aload_n 0, 1) := by decide +kernel
theorem dX10_pair_106 : decode cX10_pair 106 = .ok (.getfield 26, 3) := by decide +kernel
theorem dX10_pair_109 : decode cX10_pair 109 = .ok (.getfield 160, 3) := by decide +kernel
theorem dX10_pair_112 : decode cX10_pair 112 = .ok (.iload_n 1, 1) := by decide +kernel
theorem dX10_pair_113 : decode cX10_pair 113 = .ok (.iaload, 1) := by decide +kernel
theorem dX10_pair_114 : decode cX10_pair 114 = .ok (.ireturn, 1) := by decide +kernel
theorem dX10_pair_115 : decode cX10_pair 115 = .ok (.aload_n 0, 1) := by decide +kernel
theorem dX10_pair_116 : decode cX10_pair 116 = .ok (.iload_n 1, 1) := by decide +kernel
theorem dX10_pair_117 : decode cX10_pair 117 = .ok (.invokevirtual 163, 3) := by decide +kernel
theorem dX10_pair_120 : decode cX10_pair 120 = .ok (.ifCond .eq 7, 3) := by decide +kernel
theorem dX10_pair_123 : decode cX10_pair 123 = .ok (.iconst 1, 1) := by decide +kernel
theorem dX10_pair_124 : decode cX10_pair 124 = .ok (.goto 4, 3) := by decide +kernel
theorem dX10_pair_127 : decode cX10_pair 127 = .ok (.iconst 0, 1) := by decide +kernel
theorem dX10_pair_128 : decode cX10_pair 128 = .ok (.ireturn, 1) := by decide +kernel
theorem dX10_pair_129 : decode cX10_pair 129 = .ok (.aload_n 0, 1) := by decide +kernel
theorem dX10_pair_130 : decode cX10_pair 130 = .ok (.getfield 26, 3) := by decide +kernel
theorem dX10_pair_133 : decode cX10_pair 133 = .ok (.getfield 138, 3) := by decide +kernel
theorem dX10_pair_136 : decode cX10_pair 136 = .ok (.aload_n 0, 1) := by decide +kernel
theorem dX10_pair_137 : decode cX10_pair 137 = .ok (.getfield 26, 3) := by decide +kernel
theorem dX10_pair_140 : decode cX10_pair 140 = .ok (.getfield 145, 3) := by decide +kernel
theorem dX10_pair_143 : decode cX10_pair 143 = .ok (.iload_n 1, 1) := by decide +kernel
theorem dX10_pair_144 : decode cX10_pair 144 = .ok (.iaload, 1) := by decide +kernel
theorem dX10_pair_145 : decode cX10_pair 145 = .ok (.iaload, 1) := by decide +kernel
theorem dX10_pair_146 : decode cX10_pair 146 = .ok (.aload_n 0, 1) := by decide +kernel
theorem dX10_pair_147 : decode cX10_pair 147 = .ok (.getfield 26, 3) := by decide +kernel
theorem dX10_pair_150 : decode cX10_pair 150 = .ok (.getfield 138, 3) := by decide +kernel
theorem dX10_pair_153 : decode cX10_pair 153 = .ok (.aload_n 0, 1) := by decide +kernel
theorem dX10_pair_154 : decode cX10_pair 154 = .ok (.getfield 26, 3) := by decide +kernel
theorem dX10_pair_157 : decode cX10_pair 157 = .ok (.getfield 148, 3) := by decide +kernel
theorem dX10_pair_160 : decode cX10_pair 160 = .ok (.iload_n 1, 1) := by decide +kernel
theorem dX10_pair_161 : decode cX10_pair 161 = .ok (.iaload, 1) := by decide +kernel
theorem dX10_pair_162 : decode cX10_pair 162 = .ok (.iaload, 1) := by decide +kernel
theorem dX10_pair_163 : decode cX10_pair 163 = .ok (.aload_n 0, 1) := by decide +kernel
theorem dX10_pair_164 : decode cX10_pair 164 = .ok (.getfield 22, 3) := by decide +kernel
theorem dX10_pair_167 : decode cX10_pair 167 = .ok (.getfield 166, 3) := by decide +kernel
theorem dX10_pair_170 : decode cX10_pair 170 = .ok (.invokestatic 169, 3) := by decide +kernel
theorem dX10_pair_173 : decode cX10_pair 173 = .ok (.ireturn, 1) := by decide +kernel
theorem dX10_pair_174 : decode cX10_pair 174 = .ok (.aload_n 0, 1) := by decide +kernel
theorem dX10_pair_175 : decode cX10_pair 175 = .ok (.iconst 1, 1) := by decide +kernel
theorem dX10_pair_176 : decode cX10_pair 176 = .ok (.invokevirtual 87, 3) := by decide +kernel
theorem dX10_pair_179 : decode cX10_pair 179 = .ok (.ireturn, 1) := by decide +kernel
theorem dX10_pairOf_0 : decode cX10_pairOf 0 = .ok (.aload_n 0, 1) := by decide +kernel
theorem dX10_pairOf_1 : decode cX10_pairOf 1 = .ok (.iload_n 1, 1) := by decide +kernel
theorem dX10_pairOf_2 : decode cX10_pairOf 2 = .ok (.iload_n 2, 1) := by decide +kernel
theorem dX10_pairOf_3 : decode cX10_pairOf 3 = .ok (.invokevirtual 173, 3) := by decide +kernel
theorem dX10_pairOf_6 : decode cX10_pairOf 6 = .ok (.ifCond .eq 7, 3) := by decide +kernel
theorem dX10_pairOf_9 : decode cX10_pairOf 9 = .ok (.iconst (-1), 1) := by decide +kernel
theorem dX10_pairOf_10 : decode cX10_pairOf 10 = .ok (.goto 12, 3) := by decide +kernel
theorem dX10_pairOf_13 : decode cX10_pairOf 13 = .ok (.aload_n 0, 1) := by decide +kernel
theorem dX10_pairOf_14 : decode cX10_pairOf 14 = .ok (.getfield 26, 3) := by decide +kernel
theorem dX10_pairOf_17 : decode cX10_pairOf 17 = .ok (.iload_n 1, 1) := by decide +kernel
theorem dX10_pairOf_18 : decode cX10_pairOf 18 = .ok (.iload_n 2, 1) := by decide +kernel
theorem dX10_pairOf_19 : decode cX10_pairOf 19 = .ok (.invokevirtual 177, 3) := by decide +kernel
theorem dX10_pairOf_22 : decode cX10_pairOf 22 = .ok (.ireturn, 1) := by decide +kernel
theorem dX10_feeders_0 : decode cX10_feeders 0 = .ok (.aload_n 0, 1) := by decide +kernel
theorem dX10_feeders_1 : decode cX10_feeders 1 = .ok (.iload_n 1, 1) := by decide +kernel
theorem dX10_feeders_2 : decode cX10_feeders 2 = .ok (.invokevirtual 135, 3) := by decide +kernel
theorem dX10_feeders_5 : decode cX10_feeders 5 = .ok (.ifCond .eq 7, 3) := by decide +kernel
theorem dX10_feeders_8 : decode cX10_feeders 8 = .ok (.iconst (-1), 1) := by decide +kernel
theorem dX10_feeders_9 : decode cX10_feeders 9 = .ok (.goto 8, 3) := by decide +kernel
theorem dX10_feeders_12 : decode cX10_feeders 12 = .ok (.aload_n 0, 1) := by decide +kernel
theorem dX10_feeders_13 : decode cX10_feeders 13 = .ok (.iload_n 1, 1) := by decide +kernel
theorem dX10_feeders_14 : decode cX10_feeders 14 = .ok (.invokevirtual 181, 3) := by decide +kernel
theorem dX10_feeders_17 : decode cX10_feeders 17 = .ok (.ireturn, 1) := by decide +kernel
theorem dX10_forks_0 : decode cX10_forks 0 = .ok (.aload_n 0, 1) := by decide +kernel
theorem dX10_forks_1 : decode cX10_forks 1 = .ok (.iload_n 1, 1) := by decide +kernel
theorem dX10_forks_2 : decode cX10_forks 2 = .ok (.iload_n 2, 1) := by decide +kernel
theorem dX10_forks_3 : decode cX10_forks 3 = .ok (.invokevirtual 173, 3) := by decide +kernel
theorem dX10_forks_6 : decode cX10_forks 6 = .ok (.ifCond .eq 7, 3) := by decide +kernel
theorem dX10_forks_9 : decode cX10_forks 9 = .ok (.iconst (-1), 1) := by decide +kernel
theorem dX10_forks_10 : decode cX10_forks 10 = .ok (.goto 31, 3) := by decide +kernel
theorem dX10_forks_13 : decode cX10_forks 13 = .ok (.aload_n 0, 1) := by decide +kernel
theorem dX10_forks_14 : decode cX10_forks 14 = .ok (.getfield 26, 3) := by decide +kernel
theorem dX10_forks_17 : decode cX10_forks 17 = .ok (.getfield 138, 3) := by decide +kernel
theorem dX10_forks_20 : decode cX10_forks 20 = .ok (.iload_n 1, 1) := by decide +kernel
theorem dX10_forks_21 : decode cX10_forks 21 = .ok (.iaload, 1) := by decide +kernel
theorem dX10_forks_22 : decode cX10_forks 22 = .ok (.aload_n 0, 1) := by decide +kernel
theorem dX10_forks_23 : decode cX10_forks 23 = .ok (.getfield 26, 3) := by decide +kernel
theorem dX10_forks_26 : decode cX10_forks 26 = .ok (.getfield 138, 3) := by decide +kernel
theorem dX10_forks_29 : decode cX10_forks 29 = .ok (.iload_n 2, 1) := by decide +kernel
theorem dX10_forks_30 : decode cX10_forks 30 = .ok (.iaload, 1) := by decide +kernel
theorem dX10_forks_31 : decode cX10_forks 31 = .ok (.aload_n 0, 1) := by decide +kernel
theorem dX10_forks_32 : decode cX10_forks 32 = .ok (.getfield 22, 3) := by decide +kernel
theorem dX10_forks_35 : decode cX10_forks 35 = .ok (.getfield 166, 3) := by decide +kernel
theorem dX10_forks_38 : decode cX10_forks 38 = .ok (.invokestatic 184, 3) := by decide +kernel
theorem dX10_forks_41 : decode cX10_forks 41 = .ok (.ireturn, 1) := by decide +kernel
theorem dX10_fed_0 : decode cX10_fed 0 = .ok (.aload_n 0, 1) := by decide +kernel
theorem dX10_fed_1 : decode cX10_fed 1 = .ok (.invokevirtual 187, 3) := by decide +kernel
theorem dX10_fed_4 : decode cX10_fed 4 = .ok (.ifCond .eq 7, 3) := by decide +kernel
theorem dX10_fed_7 : decode cX10_fed 7 = .ok (.iconst (-1), 1) := by decide +kernel
theorem dX10_fed_8 : decode cX10_fed 8 = .ok (.goto 8, 3) := by decide +kernel
theorem dX10_fed_11 : decode cX10_fed 11 = .ok (.aload_n 0, 1) := by decide +kernel
theorem dX10_fed_12 : decode cX10_fed 12 = .ok (.iconst 0, 1) := by decide +kernel
theorem dX10_fed_13 : decode cX10_fed 13 = .ok (.invokevirtual 191, 3) := by decide +kernel
theorem dX10_fed_16 : decode cX10_fed 16 = .ok (.ireturn, 1) := by decide +kernel
theorem dX10_match_0 : decode cX10_match 0 = .ok (.aload_n 0, 1) := by decide +kernel
theorem dX10_match_1 : decode cX10_match 1 = .ok (.invokevirtual 187, 3) := by decide +kernel
theorem dX10_match_4 : decode cX10_match 4 = .ok (.ifCond .eq 5, 3) := by decide +kernel
theorem dX10_match_7 : decode cX10_match 7 = .ok (.iconst (-1), 1) := by decide +kernel
theorem dX10_match_8 : decode cX10_match 8 = .ok (.ireturn, 1) := by decide +kernel
theorem dX10_match_9 : decode cX10_match 9 = .ok (.aload_n 0, 1) := by decide +kernel
theorem dX10_match_10 : decode cX10_match 10 = .ok (.invokevirtual 194, 3) := by decide +kernel
theorem dX10_match_13 : decode cX10_match 13 = .ok (.aload_n 0, 1) := by decide +kernel
theorem dX10_match_14 : decode cX10_match 14 = .ok (.getfield 35, 3) := by decide +kernel
theorem dX10_match_17 : decode cX10_match 17 = .ok (.getfield 197, 3) := by decide +kernel
theorem dX10_match_20 : decode cX10_match 20 = .ok (.ireturn, 1) := by decide +kernel
theorem dX10_slops_0 : decode cX10_slops 0 = .ok (.aload_n 0, 1) := by decide +kernel
theorem dX10_slops_1 : decode cX10_slops 1 = .ok (.invokevirtual 187, 3) := by decide +kernel
theorem dX10_slops_4 : decode cX10_slops 4 = .ok (.ifCond .eq 5, 3) := by decide +kernel
theorem dX10_slops_7 : decode cX10_slops 7 = .ok (.iconst (-1), 1) := by decide +kernel
theorem dX10_slops_8 : decode cX10_slops 8 = .ok (.ireturn, 1) := by decide +kernel
theorem dX10_slops_9 : decode cX10_slops 9 = .ok (.aload_n 0, 1) := by decide +kernel
theorem dX10_slops_10 : decode cX10_slops 10 = .ok (.invokevirtual 194, 3) := by decide +kernel
theorem dX10_slops_13 : decode cX10_slops 13 = .ok (.aload_n 0, 1) := by decide +kernel
theorem dX10_slops_14 : decode cX10_slops 14 = .ok (.getfield 35, 3) := by decide +kernel
theorem dX10_slops_17 : decode cX10_slops 17 = .ok (.getfield 200, 3) := by decide +kernel
theorem dX10_slops_20 : decode cX10_slops 20 = .ok (.ireturn, 1) := by decide +kernel
theorem dX10_mate_0 : decode cX10_mate 0 = .ok (.aload_n 0, 1) := by decide +kernel
theorem dX10_mate_1 : decode cX10_mate 1 = .ok (.iload_n 1, 1) := by decide +kernel
theorem dX10_mate_2 : decode cX10_mate 2 = .ok (.invokevirtual 135, 3) := by decide +kernel
theorem dX10_mate_5 : decode cX10_mate 5 = .ok (.ifCond .eq 5, 3) := by decide +kernel
theorem dX10_mate_8 : decode cX10_mate 8 = .ok (.iconst (-1), 1) := by decide +kernel
theorem dX10_mate_9 : decode cX10_mate 9 = .ok (.ireturn, 1) := by decide +kernel
theorem dX10_mate_10 : decode cX10_mate 10 = .ok (.aload_n 0, 1) := by decide +kernel
theorem dX10_mate_11 : decode cX10_mate 11 = .ok (.invokevirtual 194, 3) := by decide +kernel
theorem dX10_mate_14 : decode cX10_mate 14 = .ok (.aload_n 0, 1) := by decide +kernel
theorem dX10_mate_15 : decode cX10_mate 15 = .ok (.getfield 35, 3) := by decide +kernel
theorem dX10_mate_18 : decode cX10_mate 18 = .ok (.iload_n 1, 1) := by decide +kernel
theorem dX10_mate_19 : decode cX10_mate 19 = .ok (.aload_n 0, 1) := by decide +kernel
theorem dX10_mate_20 : decode cX10_mate 20 = .ok (.getfield 35, 3) := by decide +kernel
theorem dX10_mate_23 : decode cX10_mate 23 = .ok (.getfield 197, 3) := by decide +kernel
theorem dX10_mate_26 : decode cX10_mate 26 = .ok (.invokevirtual 203, 3) := by decide +kernel
theorem dX10_mate_29 : decode cX10_mate 29 = .ok (.istore_n 2, 1) := by decide +kernel
theorem dX10_mate_30 : decode cX10_mate 30 = .ok (.iload_n 2, 1) := by decide +kernel
theorem dX10_mate_31 : decode cX10_mate 31 = .ok (.ifCond .ge 8, 3) := by decide +kernel
theorem dX10_mate_34 : decode cX10_mate 34 = .ok (.bipush (-2), 2) := by decide +kernel
theorem dX10_mate_36 : decode cX10_mate 36 = .ok (.goto 12, 3) := by decide +kernel
theorem dX10_mate_39 : decode cX10_mate 39 = .ok (.aload_n 0, 1) := by decide +kernel
theorem dX10_mate_40 : decode cX10_mate 40 = .ok (.getfield 26, 3) := by decide +kernel
theorem dX10_mate_43 : decode cX10_mate 43 = .ok (.iload_n 2, 1) := by decide +kernel
theorem dX10_mate_44 : decode cX10_mate 44 = .ok (.iload_n 1, 1) := by decide +kernel
theorem dX10_mate_45 : decode cX10_mate 45 = .ok (.invokevirtual 206, 3) := by decide +kernel
theorem dX10_mate_48 : decode cX10_mate 48 = .ok (.ireturn, 1) := by decide +kernel
theorem dX10_starving_0 : decode cX10_starving 0 = .ok (.aload_n 0, 1) := by decide +kernel
theorem dX10_starving_1 : decode cX10_starving 1 = .ok (.invokevirtual 187, 3) := by decide +kernel
theorem dX10_starving_4 : decode cX10_starving 4 = .ok (.ifCond .eq 5, 3) := by decide +kernel
theorem dX10_starving_7 : decode cX10_starving 7 = .ok (.iconst (-1), 1) := by decide +kernel
theorem dX10_starving_8 : decode cX10_starving 8 = .ok (.ireturn, 1) := by decide +kernel
theorem dX10_starving_9 : decode cX10_starving 9 = .ok (.aload_n 0, 1) := by decide +kernel
theorem dX10_starving_10 : decode cX10_starving 10 = .ok (.invokevirtual 194, 3) := by decide +kernel
theorem dX10_starving_13 : decode cX10_starving 13 = .ok (.iconst 0, 1) := by decide +kernel
theorem dX10_starving_14 : decode cX10_starving 14 = .ok (.istore_n 1, 1) := by decide +kernel
theorem dX10_starving_15 : decode cX10_starving 15 = .ok (.iconst 0, 1) := by decide +kernel
theorem dX10_starving_16 : decode cX10_starving 16 = .ok (.istore_n 2, 1) := by decide +kernel
theorem dX10_starving_17 : decode cX10_starving 17 = .ok (.iload_n 2, 1) := by decide +kernel
theorem dX10_starving_18 : decode cX10_starving 18 = .ok (.aload_n 0, 1) := by decide +kernel
theorem dX10_starving_19 : decode cX10_starving 19 = .ok (.getfield 22, 3) := by decide +kernel
theorem dX10_starving_22 : decode cX10_starving 22 = .ok (.getfield 132, 3) := by decide +kernel
theorem dX10_starving_25 : decode cX10_starving 25 = .ok (.if_icmp .ge 33, 3) := by decide +kernel
theorem dX10_starving_28 : decode cX10_starving 28 = .ok (.aload_n 0, 1) := by decide +kernel
theorem dX10_starving_29 : decode cX10_starving 29 = .ok (.getfield 35, 3) := by decide +kernel
theorem dX10_starving_32 : decode cX10_starving 32 = .ok (.iload_n 2, 1) := by decide +kernel
theorem dX10_starving_33 : decode cX10_starving 33 = .ok (.aload_n 0, 1) := by decide +kernel
theorem dX10_starving_34 : decode cX10_starving 34 = .ok (.getfield 35, 3) := by decide +kernel
theorem dX10_starving_37 : decode cX10_starving 37 = .ok (.getfield 197, 3) := by decide +kernel
theorem dX10_starving_40 : decode cX10_starving 40 = .ok (.invokevirtual 203, 3) := by decide +kernel
theorem dX10_starving_43 : decode cX10_starving 43 = .ok (.ifCond .ge 9, 3) := by decide +kernel
theorem dX10_starving_46 : decode cX10_starving 46 = .ok (.iload_n 1, 1) := by decide +kernel
theorem dX10_starving_47 : decode cX10_starving 47 = .ok (.iconst 1, 1) := by decide +kernel
theorem dX10_starving_48 : decode cX10_starving 48 = .ok (.iload_n 2, 1) := by decide +kernel
theorem dX10_starving_49 : decode cX10_starving 49 = .ok (.ishl, 1) := by decide +kernel
theorem dX10_starving_50 : decode cX10_starving 50 = .ok (.ior, 1) := by decide +kernel
theorem dX10_starving_51 : decode cX10_starving 51 = .ok (.istore_n 1, 1) := by decide +kernel
theorem dX10_starving_52 : decode cX10_starving 52 = .ok (.iinc 2 1, 3) := by decide +kernel
theorem dX10_starving_55 : decode cX10_starving 55 = .ok (.goto (-38), 3) := by decide +kernel
theorem dX10_starving_58 : decode cX10_starving 58 = .ok (.iload_n 1, 1) := by decide +kernel
theorem dX10_starving_59 : decode cX10_starving 59 = .ok (.ireturn, 1) := by decide +kernel
theorem dX10_matches_0 : decode cX10_matches 0 = .ok (.aload_n 0, 1) := by decide +kernel
theorem dX10_matches_1 : decode cX10_matches 1 = .ok (.invokevirtual 187, 3) := by decide +kernel
theorem dX10_matches_4 : decode cX10_matches 4 = .ok (.ifCond .eq 5, 3) := by decide +kernel
theorem dX10_matches_7 : decode cX10_matches 7 = .ok (.iconst (-1), 1) := by decide +kernel
theorem dX10_matches_8 : decode cX10_matches 8 = .ok (.ireturn, 1) := by decide +kernel
theorem dX10_matches_9 : decode cX10_matches 9 = .ok (.aload_n 0, 1) := by decide +kernel
theorem dX10_matches_10 : decode cX10_matches 10 = .ok (.invokevirtual 194, 3) := by decide +kernel
theorem dX10_matches_13 : decode cX10_matches 13 = .ok (.aload_n 0, 1) := by decide +kernel
theorem dX10_matches_14 : decode cX10_matches 14 = .ok (.getfield 35, 3) := by decide +kernel
theorem dX10_matches_17 : decode cX10_matches 17 = .ok (.getfield 209, 3) := by decide +kernel
theorem dX10_matches_20 : decode cX10_matches 20 = .ok (.getfield 213, 3) := by decide +kernel
theorem dX10_matches_23 : decode cX10_matches 23 = .ok (.ireturn, 1) := by decide +kernel
theorem dX10_handleIn_0 : decode cX10_handleIn 0 = .ok (.aload_n 0, 1) := by decide +kernel
theorem dX10_handleIn_1 : decode cX10_handleIn 1 = .ok (.iload_n 1, 1) := by decide +kernel
theorem dX10_handleIn_2 : decode cX10_handleIn 2 = .ok (.invokevirtual 142, 3) := by decide +kernel
theorem dX10_handleIn_5 : decode cX10_handleIn 5 = .ok (.ifCond .eq 5, 3) := by decide +kernel
theorem dX10_handleIn_8 : decode cX10_handleIn 8 = .ok (.iconst (-1), 1) := by decide +kernel
theorem dX10_handleIn_9 : decode cX10_handleIn 9 = .ok (.ireturn, 1) := by decide +kernel
theorem dX10_handleIn_10 : decode cX10_handleIn 10 = .ok (.iload_n 2, 1) := by decide +kernel
theorem dX10_handleIn_11 : decode cX10_handleIn 11 = .ok (.bipush 60, 2) := by decide +kernel
theorem dX10_handleIn_13 : decode cX10_handleIn 13 = .ok (.invokestatic 216, 3) := by decide +kernel
theorem dX10_handleIn_16 : decode cX10_handleIn 16 = .ok (.ifCond .eq 15, 3) := by decide +kernel
theorem dX10_handleIn_19 : decode cX10_handleIn 19 = .ok (.aload_n 0, 1) := by decide +kernel
theorem dX10_handleIn_20 : decode cX10_handleIn 20 = .ok (.getfield 26, 3) := by decide +kernel
theorem dX10_handleIn_23 : decode cX10_handleIn 23 = .ok (.iload_n 1, 1) := by decide +kernel
theorem dX10_handleIn_24 : decode cX10_handleIn 24 = .ok (.iload_n 2, 1) := by decide +kernel
theorem dX10_handleIn_25 : decode cX10_handleIn 25 = .ok (.invokevirtual 219, 3) := by decide +kernel
theorem dX10_handleIn_28 : decode cX10_handleIn 28 = .ok (.goto 8, 3) := by decide +kernel
theorem dX10_handleIn_31 : decode cX10_handleIn 31 = .ok (.aload_n 0, 1) := by decide +kernel
theorem dX10_handleIn_32 : decode cX10_handleIn 32 = .ok (.iconst 2, 1) := by decide +kernel
theorem dX10_handleIn_33 : decode cX10_handleIn 33 = .ok (.invokevirtual 87, 3) := by decide +kernel
theorem dX10_handleIn_36 : decode cX10_handleIn 36 = .ok (.ireturn, 1) := by decide +kernel
theorem dX10_feedsIn_0 : decode cX10_feedsIn 0 = .ok (.aload_n 0, 1) := by decide +kernel
theorem dX10_feedsIn_1 : decode cX10_feedsIn 1 = .ok (.iload_n 1, 1) := by decide +kernel
theorem dX10_feedsIn_2 : decode cX10_feedsIn 2 = .ok (.invokevirtual 142, 3) := by decide +kernel
theorem dX10_feedsIn_5 : decode cX10_feedsIn 5 = .ok (.ifCond .eq 5, 3) := by decide +kernel
theorem dX10_feedsIn_8 : decode cX10_feedsIn 8 = .ok (.iconst (-1), 1) := by decide +kernel
theorem dX10_feedsIn_9 : decode cX10_feedsIn 9 = .ok (.ireturn, 1) := by decide +kernel
theorem dX10_feedsIn_10 : decode cX10_feedsIn 10 = .ok (.iconst 0, 1) := by decide +kernel
theorem dX10_feedsIn_11 : decode cX10_feedsIn 11 = .ok (.istore_n 2, 1) := by decide +kernel
theorem dX10_feedsIn_12 : decode cX10_feedsIn 12 = .ok (.iload_n 2, 1) := by decide +kernel
theorem dX10_feedsIn_13 : decode cX10_feedsIn 13 = .ok (.bipush 60, 2) := by decide +kernel
theorem dX10_feedsIn_15 : decode cX10_feedsIn 15 = .ok (.if_icmp .gt 20, 3) := by decide +kernel
theorem dX10_feedsIn_18 : decode cX10_feedsIn 18 = .ok (.aload_n 0, 1) := by decide +kernel
theorem dX10_feedsIn_19 : decode cX10_feedsIn 19 = .ok (.iload_n 1, 1) := by decide +kernel
theorem dX10_feedsIn_20 : decode cX10_feedsIn 20 = .ok (.iload_n 2, 1) := by decide +kernel
theorem dX10_feedsIn_21 : decode cX10_feedsIn 21 = .ok (.invokevirtual 222, 3) := by decide +kernel
theorem dX10_feedsIn_24 : decode cX10_feedsIn 24 = .ok (.ifCond .eq 5, 3) := by decide +kernel
theorem dX10_feedsIn_27 : decode cX10_feedsIn 27 = .ok (.iload_n 2, 1) := by decide +kernel
theorem dX10_feedsIn_28 : decode cX10_feedsIn 28 = .ok (.ireturn, 1) := by decide +kernel
theorem dX10_feedsIn_29 : decode cX10_feedsIn 29 = .ok (.iinc 2 1, 3) := by decide +kernel
theorem dX10_feedsIn_32 : decode cX10_feedsIn 32 = .ok (.goto (-20), 3) := by decide +kernel
theorem dX10_feedsIn_35 : decode cX10_feedsIn 35 = .ok (.bipush (-2), 2) := by decide +kernel
theorem dX10_feedsIn_37 : decode cX10_feedsIn 37 = .ok (.ireturn, 1) := by decide +kernel
theorem dX10_feedsOften_0 : decode cX10_feedsOften 0 = .ok (.aload_n 0, 1) := by decide +kernel
theorem dX10_feedsOften_1 : decode cX10_feedsOften 1 = .ok (.iload_n 1, 1) := by decide +kernel
theorem dX10_feedsOften_2 : decode cX10_feedsOften 2 = .ok (.invokevirtual 142, 3) := by decide +kernel
theorem dX10_feedsOften_5 : decode cX10_feedsOften 5 = .ok (.ifCond .eq 5, 3) := by decide +kernel
theorem dX10_feedsOften_8 : decode cX10_feedsOften 8 = .ok (.iconst (-1), 1) := by decide +kernel
theorem dX10_feedsOften_9 : decode cX10_feedsOften 9 = .ok (.ireturn, 1) := by decide +kernel
theorem dX10_feedsOften_10 : decode cX10_feedsOften 10 = .ok (.iconst 0, 1) := by decide +kernel
theorem dX10_feedsOften_11 : decode cX10_feedsOften 11 = .ok (.istore_n 2, 1) := by decide +kernel
theorem dX10_feedsOften_12 : decode cX10_feedsOften 12 = .ok (.iconst 0, 1) := by decide +kernel
theorem dX10_feedsOften_13 : decode cX10_feedsOften 13 = .ok (.istore_n 3, 1) := by decide +kernel
theorem dX10_feedsOften_14 : decode cX10_feedsOften 14 = .ok (.iload_n 3, 1) := by decide +kernel
theorem dX10_feedsOften_15 : decode cX10_feedsOften 15 = .ok (.bipush 60, 2) := by decide +kernel
theorem dX10_feedsOften_17 : decode cX10_feedsOften 17 = .ok (.if_icmp .gt 21, 3) := by decide +kernel
theorem dX10_feedsOften_20 : decode cX10_feedsOften 20 = .ok (.aload_n 0, 1) := by decide +kernel
theorem dX10_feedsOften_21 : decode cX10_feedsOften 21 = .ok (.iload_n 1, 1) := by decide +kernel
theorem dX10_feedsOften_22 : decode cX10_feedsOften 22 = .ok (.iload_n 3, 1) := by decide +kernel
theorem dX10_feedsOften_23 : decode cX10_feedsOften 23 = .ok (.invokevirtual 222, 3) := by decide +kernel
theorem dX10_feedsOften_26 : decode cX10_feedsOften 26 = .ok (.ifCond .eq 6, 3) := by decide +kernel
theorem dX10_feedsOften_29 : decode cX10_feedsOften 29 = .ok (.iinc 2 1, 3) := by decide +kernel
theorem dX10_feedsOften_32 : decode cX10_feedsOften 32 = .ok (.iinc 3 1, 3) := by decide +kernel
theorem dX10_feedsOften_35 : decode cX10_feedsOften 35 = .ok (.goto (-21), 3) := by decide +kernel
theorem dX10_feedsOften_38 : decode cX10_feedsOften 38 = .ok (.iload_n 2, 1) := by decide +kernel
theorem dX10_feedsOften_39 : decode cX10_feedsOften 39 = .ok (.ireturn, 1) := by decide +kernel
theorem dX10_fedIn_0 : decode cX10_fedIn 0 = .ok (.aload_n 0, 1) := by decide +kernel
theorem dX10_fedIn_1 : decode cX10_fedIn 1 = .ok (.invokevirtual 187, 3) := by decide +kernel
theorem dX10_fedIn_4 : decode cX10_fedIn 4 = .ok (.ifCond .eq 5, 3) := by decide +kernel
theorem dX10_fedIn_7 : decode cX10_fedIn 7 = .ok (.iconst (-1), 1) := by decide +kernel
theorem dX10_fedIn_8 : decode cX10_fedIn 8 = .ok (.ireturn, 1) := by decide +kernel
theorem dX10_fedIn_9 : decode cX10_fedIn 9 = .ok (.iload_n 1, 1) := by decide +kernel
theorem dX10_fedIn_10 : decode cX10_fedIn 10 = .ok (.bipush 60, 2) := by decide +kernel
theorem dX10_fedIn_12 : decode cX10_fedIn 12 = .ok (.invokestatic 216, 3) := by decide +kernel
theorem dX10_fedIn_15 : decode cX10_fedIn 15 = .ok (.ifCond .eq 11, 3) := by decide +kernel
theorem dX10_fedIn_18 : decode cX10_fedIn 18 = .ok (.aload_n 0, 1) := by decide +kernel
theorem dX10_fedIn_19 : decode cX10_fedIn 19 = .ok (.iload_n 1, 1) := by decide +kernel
theorem dX10_fedIn_20 : decode cX10_fedIn 20 = .ok (.invokevirtual 191, 3) := by decide +kernel
theorem dX10_fedIn_23 : decode cX10_fedIn 23 = .ok (.goto 8, 3) := by decide +kernel
theorem dX10_fedIn_26 : decode cX10_fedIn 26 = .ok (.aload_n 0, 1) := by decide +kernel
theorem dX10_fedIn_27 : decode cX10_fedIn 27 = .ok (.iconst 2, 1) := by decide +kernel
theorem dX10_fedIn_28 : decode cX10_fedIn 28 = .ok (.invokevirtual 87, 3) := by decide +kernel
theorem dX10_fedIn_31 : decode cX10_fedIn 31 = .ok (.ireturn, 1) := by decide +kernel
theorem dX10_bestYear_0 : decode cX10_bestYear 0 = .ok (.aload_n 0, 1) := by decide +kernel
theorem dX10_bestYear_1 : decode cX10_bestYear 1 = .ok (.invokevirtual 187, 3) := by decide +kernel
theorem dX10_bestYear_4 : decode cX10_bestYear 4 = .ok (.ifCond .eq 5, 3) := by decide +kernel
theorem dX10_bestYear_7 : decode cX10_bestYear 7 = .ok (.iconst (-1), 1) := by decide +kernel
theorem dX10_bestYear_8 : decode cX10_bestYear 8 = .ok (.ireturn, 1) := by decide +kernel
theorem dX10_bestYear_9 : decode cX10_bestYear 9 = .ok (.iconst 0, 1) := by decide +kernel
theorem dX10_bestYear_10 : decode cX10_bestYear 10 = .ok (.istore_n 1, 1) := by decide +kernel
theorem dX10_bestYear_11 : decode cX10_bestYear 11 = .ok (.iconst (-1), 1) := by decide +kernel
theorem dX10_bestYear_12 : decode cX10_bestYear 12 = .ok (.istore_n 2, 1) := by decide +kernel
theorem dX10_bestYear_13 : decode cX10_bestYear 13 = .ok (.iconst 0, 1) := by decide +kernel
theorem dX10_bestYear_14 : decode cX10_bestYear 14 = .ok (.istore_n 3, 1) := by decide +kernel
theorem dX10_bestYear_15 : decode cX10_bestYear 15 = .ok (.iload_n 3, 1) := by decide +kernel
theorem dX10_bestYear_16 : decode cX10_bestYear 16 = .ok (.bipush 60, 2) := by decide +kernel
theorem dX10_bestYear_18 : decode cX10_bestYear 18 = .ok (.if_icmp .gt 27, 3) := by decide +kernel
theorem dX10_bestYear_21 : decode cX10_bestYear 21 = .ok (.aload_n 0, 1) := by decide +kernel
theorem dX10_bestYear_22 : decode cX10_bestYear 22 = .ok (.iload_n 3, 1) := by decide +kernel
theorem dX10_bestYear_23 : decode cX10_bestYear 23 = .ok (.invokevirtual 191, 3) := by decide +kernel
theorem dX10_bestYear_26 : decode cX10_bestYear 26 = .ok (.istore 4, 2) := by decide +kernel
theorem dX10_bestYear_28 : decode cX10_bestYear 28 = .ok (.iload 4, 2) := by decide +kernel
theorem dX10_bestYear_30 : decode cX10_bestYear 30 = .ok (.iload_n 2, 1) := by decide +kernel
theorem dX10_bestYear_31 : decode cX10_bestYear 31 = .ok (.if_icmp .le 8, 3) := by decide +kernel
theorem dX10_bestYear_34 : decode cX10_bestYear 34 = .ok (.iload 4, 2) := by decide +kernel
theorem dX10_bestYear_36 : decode cX10_bestYear 36 = .ok (.istore_n 2, 1) := by decide +kernel
theorem dX10_bestYear_37 : decode cX10_bestYear 37 = .ok (.iload_n 3, 1) := by decide +kernel
theorem dX10_bestYear_38 : decode cX10_bestYear 38 = .ok (.istore_n 1, 1) := by decide +kernel
theorem dX10_bestYear_39 : decode cX10_bestYear 39 = .ok (.iinc 3 1, 3) := by decide +kernel
theorem dX10_bestYear_42 : decode cX10_bestYear 42 = .ok (.goto (-27), 3) := by decide +kernel
theorem dX10_bestYear_45 : decode cX10_bestYear 45 = .ok (.iload_n 1, 1) := by decide +kernel
theorem dX10_bestYear_46 : decode cX10_bestYear 46 = .ok (.ireturn, 1) := by decide +kernel
theorem dX10_allIn_0 : decode cX10_allIn 0 = .ok (.aload_n 0, 1) := by decide +kernel
theorem dX10_allIn_1 : decode cX10_allIn 1 = .ok (.invokevirtual 187, 3) := by decide +kernel
theorem dX10_allIn_4 : decode cX10_allIn 4 = .ok (.ifCond .eq 5, 3) := by decide +kernel
theorem dX10_allIn_7 : decode cX10_allIn 7 = .ok (.iconst (-1), 1) := by decide +kernel
theorem dX10_allIn_8 : decode cX10_allIn 8 = .ok (.ireturn, 1) := by decide +kernel
theorem dX10_allIn_9 : decode cX10_allIn 9 = .ok (.iconst 0, 1) := by decide +kernel
theorem dX10_allIn_10 : decode cX10_allIn 10 = .ok (.istore_n 1, 1) := by decide +kernel
theorem dX10_allIn_11 : decode cX10_allIn 11 = .ok (.iload_n 1, 1) := by decide +kernel
theorem dX10_allIn_12 : decode cX10_allIn 12 = .ok (.bipush 60, 2) := by decide +kernel
theorem dX10_allIn_14 : decode cX10_allIn 14 = .ok (.if_icmp .gt 28, 3) := by decide +kernel
theorem dX10_allIn_17 : decode cX10_allIn 17 = .ok (.aload_n 0, 1) := by decide +kernel
theorem dX10_allIn_18 : decode cX10_allIn 18 = .ok (.getfield 22, 3) := by decide +kernel
theorem dX10_allIn_21 : decode cX10_allIn 21 = .ok (.getfield 132, 3) := by decide +kernel
theorem dX10_allIn_24 : decode cX10_allIn 24 = .ok (.aload_n 0, 1) := by decide +kernel
theorem dX10_allIn_25 : decode cX10_allIn 25 = .ok (.iload_n 1, 1) := by decide +kernel
theorem dX10_allIn_26 : decode cX10_allIn 26 = .ok (.invokevirtual 191, 3) := by decide +kernel
theorem dX10_allIn_29 : decode cX10_allIn 29 = .ok (.isub, 1) := by decide +kernel
theorem dX10_allIn_30 : decode cX10_allIn 30 = .ok (.iconst 1, 1) := by decide +kernel
theorem dX10_allIn_31 : decode cX10_allIn 31 = .ok (.if_icmp .gt 5, 3) := by decide +kernel
theorem dX10_allIn_34 : decode cX10_allIn 34 = .ok (.iload_n 1, 1) := by decide +kernel
theorem dX10_allIn_35 : decode cX10_allIn 35 = .ok (.ireturn, 1) := by decide +kernel
theorem dX10_allIn_36 : decode cX10_allIn 36 = .ok (.iinc 1 1, 3) := by decide +kernel
theorem dX10_allIn_39 : decode cX10_allIn 39 = .ok (.goto (-28), 3) := by decide +kernel
theorem dX10_allIn_42 : decode cX10_allIn 42 = .ok (.bipush (-2), 2) := by decide +kernel
theorem dX10_allIn_44 : decode cX10_allIn 44 = .ok (.ireturn, 1) := by decide +kernel
theorem dX10_seating_0 : decode cX10_seating 0 = .ok (.aload_n 0, 1) := by decide +kernel
theorem dX10_seating_1 : decode cX10_seating 1 = .ok (.invokevirtual 187, 3) := by decide +kernel
theorem dX10_seating_4 : decode cX10_seating 4 = .ok (.ifCond .eq 5, 3) := by decide +kernel
theorem dX10_seating_7 : decode cX10_seating 7 = .ok (.iconst (-1), 1) := by decide +kernel
theorem dX10_seating_8 : decode cX10_seating 8 = .ok (.ireturn, 1) := by decide +kernel
theorem dX10_seating_9 : decode cX10_seating 9 = .ok (.aload_n 0, 1) := by decide +kernel
theorem dX10_seating_10 : decode cX10_seating 10 = .ok (.getfield 42, 3) := by decide +kernel
theorem dX10_seating_13 : decode cX10_seating 13 = .ok (.invokevirtual 225, 3) := by decide +kernel
theorem dX10_seating_16 : decode cX10_seating 16 = .ok (.iconst 2, 1) := by decide +kernel
theorem dX10_seating_17 : decode cX10_seating 17 = .ok (.aload_n 0, 1) := by decide +kernel
theorem dX10_seating_18 : decode cX10_seating 18 = .ok (.getfield 42, 3) := by decide +kernel
theorem dX10_seating_21 : decode cX10_seating 21 = .ok (.invokevirtual 228, 3) := by decide +kernel
theorem dX10_seating_24 : decode cX10_seating 24 = .ok (.imul, 1) := by decide +kernel
theorem dX10_seating_25 : decode cX10_seating 25 = .ok (.ireturn, 1) := by decide +kernel
theorem dX10_seatAt_0 : decode cX10_seatAt 0 = .ok (.aload_n 0, 1) := by decide +kernel
theorem dX10_seatAt_1 : decode cX10_seatAt 1 = .ok (.iload_n 1, 1) := by decide +kernel
theorem dX10_seatAt_2 : decode cX10_seatAt 2 = .ok (.invokevirtual 135, 3) := by decide +kernel
theorem dX10_seatAt_5 : decode cX10_seatAt 5 = .ok (.ifCond .eq 5, 3) := by decide +kernel
theorem dX10_seatAt_8 : decode cX10_seatAt 8 = .ok (.iconst (-1), 1) := by decide +kernel
theorem dX10_seatAt_9 : decode cX10_seatAt 9 = .ok (.ireturn, 1) := by decide +kernel
theorem dX10_seatAt_10 : decode cX10_seatAt 10 = .ok (.aload_n 0, 1) := by decide +kernel
theorem dX10_seatAt_11 : decode cX10_seatAt 11 = .ok (.getfield 42, 3) := by decide +kernel
theorem dX10_seatAt_14 : decode cX10_seatAt 14 = .ok (.invokevirtual 225, 3) := by decide +kernel
theorem dX10_seatAt_17 : decode cX10_seatAt 17 = .ok (.aload_n 0, 1) := by decide +kernel
theorem dX10_seatAt_18 : decode cX10_seatAt 18 = .ok (.getfield 42, 3) := by decide +kernel
theorem dX10_seatAt_21 : decode cX10_seatAt 21 = .ok (.getfield 232, 3) := by decide +kernel
theorem dX10_seatAt_24 : decode cX10_seatAt 24 = .ok (.iload_n 1, 1) := by decide +kernel
theorem dX10_seatAt_25 : decode cX10_seatAt 25 = .ok (.iaload, 1) := by decide +kernel
theorem dX10_seatAt_26 : decode cX10_seatAt 26 = .ok (.ireturn, 1) := by decide +kernel
theorem dX10_seatSlops_0 : decode cX10_seatSlops 0 = .ok (.aload_n 0, 1) := by decide +kernel
theorem dX10_seatSlops_1 : decode cX10_seatSlops 1 = .ok (.invokevirtual 187, 3) := by decide +kernel
theorem dX10_seatSlops_4 : decode cX10_seatSlops 4 = .ok (.ifCond .eq 5, 3) := by decide +kernel
theorem dX10_seatSlops_7 : decode cX10_seatSlops 7 = .ok (.iconst (-1), 1) := by decide +kernel
theorem dX10_seatSlops_8 : decode cX10_seatSlops 8 = .ok (.ireturn, 1) := by decide +kernel
theorem dX10_seatSlops_9 : decode cX10_seatSlops 9 = .ok (.aload_n 0, 1) := by decide +kernel
theorem dX10_seatSlops_10 : decode cX10_seatSlops 10 = .ok (.getfield 42, 3) := by decide +kernel
theorem dX10_seatSlops_13 : decode cX10_seatSlops 13 = .ok (.invokevirtual 225, 3) := by decide +kernel
theorem dX10_seatSlops_16 : decode cX10_seatSlops 16 = .ok (.aload_n 0, 1) := by decide +kernel
theorem dX10_seatSlops_17 : decode cX10_seatSlops 17 = .ok (.getfield 42, 3) := by decide +kernel
theorem dX10_seatSlops_20 : decode cX10_seatSlops 20 = .ok (.invokevirtual 228, 3) := by decide +kernel
theorem dX10_seatSlops_23 : decode cX10_seatSlops 23 = .ok (.sipush 1000, 3) := by decide +kernel
theorem dX10_seatSlops_26 : decode cX10_seatSlops 26 = .ok (.imul, 1) := by decide +kernel
theorem dX10_seatSlops_27 : decode cX10_seatSlops 27 = .ok (.aload_n 0, 1) := by decide +kernel
theorem dX10_seatSlops_28 : decode cX10_seatSlops 28 = .ok (.getfield 42, 3) := by decide +kernel
theorem dX10_seatSlops_31 : decode cX10_seatSlops 31 = .ok (.getfield 235, 3) := by decide +kernel
theorem dX10_seatSlops_34 : decode cX10_seatSlops 34 = .ok (.isub, 1) := by decide +kernel
theorem dX10_seatSlops_35 : decode cX10_seatSlops 35 = .ok (.ireturn, 1) := by decide +kernel
theorem dX10_swapped_0 : decode cX10_swapped 0 = .ok (.aload_n 0, 1) := by decide +kernel
theorem dX10_swapped_1 : decode cX10_swapped 1 = .ok (.iload_n 1, 1) := by decide +kernel
theorem dX10_swapped_2 : decode cX10_swapped 2 = .ok (.iload_n 2, 1) := by decide +kernel
theorem dX10_swapped_3 : decode cX10_swapped 3 = .ok (.invokevirtual 173, 3) := by decide +kernel
theorem dX10_swapped_6 : decode cX10_swapped 6 = .ok (.ifCond .eq 7, 3) := by decide +kernel
theorem dX10_swapped_9 : decode cX10_swapped 9 = .ok (.iconst (-1), 1) := by decide +kernel
theorem dX10_swapped_10 : decode cX10_swapped 10 = .ok (.goto 9, 3) := by decide +kernel
theorem dX10_swapped_13 : decode cX10_swapped 13 = .ok (.aload_n 0, 1) := by decide +kernel
theorem dX10_swapped_14 : decode cX10_swapped 14 = .ok (.iload_n 1, 1) := by decide +kernel
theorem dX10_swapped_15 : decode cX10_swapped 15 = .ok (.iload_n 2, 1) := by decide +kernel
theorem dX10_swapped_16 : decode cX10_swapped 16 = .ok (.invokevirtual 238, 3) := by decide +kernel
theorem dX10_swapped_19 : decode cX10_swapped 19 = .ok (.ireturn, 1) := by decide +kernel
theorem dX10_bestSwap_0 : decode cX10_bestSwap 0 = .ok (.aload_n 0, 1) := by decide +kernel
theorem dX10_bestSwap_1 : decode cX10_bestSwap 1 = .ok (.invokevirtual 187, 3) := by decide +kernel
theorem dX10_bestSwap_4 : decode cX10_bestSwap 4 = .ok (.ifCond .eq 5, 3) := by decide +kernel
theorem dX10_bestSwap_7 : decode cX10_bestSwap 7 = .ok (.iconst (-1), 1) := by decide +kernel
theorem dX10_bestSwap_8 : decode cX10_bestSwap 8 = .ok (.ireturn, 1) := by decide +kernel
theorem dX10_bestSwap_9 : decode cX10_bestSwap 9 = .ok (.bipush (-2), 2) := by decide +kernel
theorem dX10_bestSwap_11 : decode cX10_bestSwap 11 = .ok (.istore_n 1, 1) := by decide +kernel
theorem dX10_bestSwap_12 : decode cX10_bestSwap 12 = .ok (.aload_n 0, 1) := by decide +kernel
theorem dX10_bestSwap_13 : decode cX10_bestSwap 13 = .ok (.iconst 0, 1) := by decide +kernel
theorem dX10_bestSwap_14 : decode cX10_bestSwap 14 = .ok (.invokevirtual 191, 3) := by decide +kernel
theorem dX10_bestSwap_17 : decode cX10_bestSwap 17 = .ok (.istore_n 2, 1) := by decide +kernel
theorem dX10_bestSwap_18 : decode cX10_bestSwap 18 = .ok (.iconst 0, 1) := by decide +kernel
theorem dX10_bestSwap_19 : decode cX10_bestSwap 19 = .ok (.istore_n 3, 1) := by decide +kernel
theorem dX10_bestSwap_20 : decode cX10_bestSwap 20 = .ok (.iload_n 3, 1) := by decide +kernel
theorem dX10_bestSwap_21 : decode cX10_bestSwap 21 = .ok (.aload_n 0, 1) := by decide +kernel
theorem dX10_bestSwap_22 : decode cX10_bestSwap 22 = .ok (.getfield 22, 3) := by decide +kernel
theorem dX10_bestSwap_25 : decode cX10_bestSwap 25 = .ok (.getfield 132, 3) := by decide +kernel
theorem dX10_bestSwap_28 : decode cX10_bestSwap 28 = .ok (.if_icmp .ge 58, 3) := by decide +kernel
theorem dX10_bestSwap_31 : decode cX10_bestSwap 31 = .ok (.iload_n 3, 1) := by decide +kernel
theorem dX10_bestSwap_32 : decode cX10_bestSwap 32 = .ok (.iconst 1, 1) := by decide +kernel
theorem dX10_bestSwap_33 : decode cX10_bestSwap 33 = .ok (.iadd, 1) := by decide +kernel
theorem dX10_bestSwap_34 : decode cX10_bestSwap 34 = .ok (.istore 4, 2) := by decide +kernel
theorem dX10_bestSwap_36 : decode cX10_bestSwap 36 = .ok (.iload 4, 2) := by decide +kernel
theorem dX10_bestSwap_38 : decode cX10_bestSwap 38 = .ok (.aload_n 0, 1) := by decide +kernel
theorem dX10_bestSwap_39 : decode cX10_bestSwap 39 = .ok (.getfield 22, 3) := by decide +kernel
theorem dX10_bestSwap_42 : decode cX10_bestSwap 42 = .ok (.getfield 132, 3) := by decide +kernel
theorem dX10_bestSwap_45 : decode cX10_bestSwap 45 = .ok (.if_icmp .ge 35, 3) := by decide +kernel
theorem dX10_bestSwap_48 : decode cX10_bestSwap 48 = .ok (.aload_n 0, 1) := by decide +kernel
theorem dX10_bestSwap_49 : decode cX10_bestSwap 49 = .ok (.iload_n 3, 1) := by decide +kernel
theorem dX10_bestSwap_50 : decode cX10_bestSwap 50 = .ok (.iload 4, 2) := by decide +kernel
theorem dX10_bestSwap_52 : decode cX10_bestSwap 52 = .ok (.invokevirtual 238, 3) := by decide +kernel
theorem dX10_bestSwap_55 : decode cX10_bestSwap 55 = .ok (.istore 5, 2) := by decide +kernel
theorem dX10_bestSwap_57 : decode cX10_bestSwap 57 = .ok (.iload 5, 2) := by decide +kernel
theorem dX10_bestSwap_59 : decode cX10_bestSwap 59 = .ok (.iload_n 2, 1) := by decide +kernel
theorem dX10_bestSwap_60 : decode cX10_bestSwap 60 = .ok (.if_icmp .le 14, 3) := by decide +kernel
theorem dX10_bestSwap_63 : decode cX10_bestSwap 63 = .ok (.iload 5, 2) := by decide +kernel
theorem dX10_bestSwap_65 : decode cX10_bestSwap 65 = .ok (.istore_n 2, 1) := by decide +kernel
theorem dX10_bestSwap_66 : decode cX10_bestSwap 66 = .ok (.bipush 10, 2) := by decide +kernel
theorem dX10_bestSwap_68 : decode cX10_bestSwap 68 = .ok (.iload_n 3, 1) := by decide +kernel
theorem dX10_bestSwap_69 : decode cX10_bestSwap 69 = .ok (.imul, 1) := by decide +kernel
theorem dX10_bestSwap_70 : decode cX10_bestSwap 70 = .ok (.iload 4, 2) := by decide +kernel
theorem dX10_bestSwap_72 : decode cX10_bestSwap 72 = .ok (.iadd, 1) := by decide +kernel
theorem dX10_bestSwap_73 : decode cX10_bestSwap 73 = .ok (.istore_n 1, 1) := by decide +kernel
theorem dX10_bestSwap_74 : decode cX10_bestSwap 74 = .ok (.iinc 4 1, 3) := by decide +kernel
theorem dX10_bestSwap_77 : decode cX10_bestSwap 77 = .ok (.goto (-41), 3) := by decide +kernel
theorem dX10_bestSwap_80 : decode cX10_bestSwap 80 = .ok (.iinc 3 1, 3) := by decide +kernel
theorem dX10_bestSwap_83 : decode cX10_bestSwap 83 = .ok (.goto (-63), 3) := by decide +kernel
theorem dX10_bestSwap_86 : decode cX10_bestSwap 86 = .ok (.iload_n 1, 1) := by decide +kernel
theorem dX10_bestSwap_87 : decode cX10_bestSwap 87 = .ok (.ireturn, 1) := by decide +kernel
theorem dX10_better_0 : decode cX10_better 0 = .ok (.aload_n 0, 1) := by decide +kernel
theorem dX10_better_1 : decode cX10_better 1 = .ok (.iload_n 1, 1) := by decide +kernel
theorem dX10_better_2 : decode cX10_better 2 = .ok (.invokevirtual 135, 3) := by decide +kernel
theorem dX10_better_5 : decode cX10_better 5 = .ok (.ifCond .eq 5, 3) := by decide +kernel
theorem dX10_better_8 : decode cX10_better 8 = .ok (.iconst (-1), 1) := by decide +kernel
theorem dX10_better_9 : decode cX10_better 9 = .ok (.ireturn, 1) := by decide +kernel
theorem dX10_better_10 : decode cX10_better 10 = .ok (.bipush (-2), 2) := by decide +kernel
theorem dX10_better_12 : decode cX10_better 12 = .ok (.istore_n 2, 1) := by decide +kernel
theorem dX10_better_13 : decode cX10_better 13 = .ok (.aload_n 0, 1) := by decide +kernel
theorem dX10_better_14 : decode cX10_better 14 = .ok (.iconst 0, 1) := by decide +kernel
theorem dX10_better_15 : decode cX10_better 15 = .ok (.invokevirtual 191, 3) := by decide +kernel
theorem dX10_better_18 : decode cX10_better 18 = .ok (.istore_n 3, 1) := by decide +kernel
theorem dX10_better_19 : decode cX10_better 19 = .ok (.iconst 0, 1) := by decide +kernel
theorem dX10_better_20 : decode cX10_better 20 = .ok (.istore 4, 2) := by decide +kernel
theorem dX10_better_22 : decode cX10_better 22 = .ok (.iload 4, 2) := by decide +kernel
theorem dX10_better_24 : decode cX10_better 24 = .ok (.aload_n 0, 1) := by decide +kernel
theorem dX10_better_25 : decode cX10_better 25 = .ok (.getfield 22, 3) := by decide +kernel
theorem dX10_better_28 : decode cX10_better 28 = .ok (.getfield 241, 3) := by decide +kernel
theorem dX10_better_31 : decode cX10_better 31 = .ok (.if_icmp .ge 65, 3) := by decide +kernel
theorem dX10_better_34 : decode cX10_better 34 = .ok (.aload_n 0, 1) := by decide +kernel
theorem dX10_better_35 : decode cX10_better 35 = .ok (.iload 4, 2) := by decide +kernel
theorem dX10_better_37 : decode cX10_better 37 = .ok (.invokevirtual 244, 3) := by decide +kernel
theorem dX10_better_40 : decode cX10_better 40 = .ok (.ifCond .eq 50, 3) := by decide +kernel
theorem dX10_better_43 : decode cX10_better 43 = .ok (.aload_n 0, 1) := by decide +kernel
theorem dX10_better_44 : decode cX10_better 44 = .ok (.getfield 35, 3) := by decide +kernel
theorem dX10_better_47 : decode cX10_better 47 = .ok (.invokevirtual 247, 3) := by decide +kernel
theorem dX10_better_50 : decode cX10_better 50 = .ok (.aload_n 0, 1) := by decide +kernel
theorem dX10_better_51 : decode cX10_better 51 = .ok (.getfield 35, 3) := by decide +kernel
theorem dX10_better_54 : decode cX10_better 54 = .ok (.getfield 250, 3) := by decide +kernel
theorem dX10_better_57 : decode cX10_better 57 = .ok (.iload_n 1, 1) := by decide +kernel
theorem dX10_better_58 : decode cX10_better 58 = .ok (.iload 4, 2) := by decide +kernel
theorem dX10_better_60 : decode cX10_better 60 = .ok (.iastore, 1) := by decide +kernel
theorem dX10_better_61 : decode cX10_better 61 = .ok (.aload_n 0, 1) := by decide +kernel
theorem dX10_better_62 : decode cX10_better 62 = .ok (.getfield 35, 3) := by decide +kernel
theorem dX10_better_65 : decode cX10_better 65 = .ok (.invokevirtual 251, 3) := by decide +kernel
theorem dX10_better_68 : decode cX10_better 68 = .ok (.aload_n 0, 1) := by decide +kernel
theorem dX10_better_69 : decode cX10_better 69 = .ok (.getfield 35, 3) := by decide +kernel
theorem dX10_better_72 : decode cX10_better 72 = .ok (.invokevirtual 254, 3) := by decide +kernel
theorem dX10_better_75 : decode cX10_better 75 = .ok (.iload_n 3, 1) := by decide +kernel
theorem dX10_better_76 : decode cX10_better 76 = .ok (.if_icmp .le 14, 3) := by decide +kernel
theorem dX10_better_79 : decode cX10_better 79 = .ok (.aload_n 0, 1) := by decide +kernel
theorem dX10_better_80 : decode cX10_better 80 = .ok (.getfield 35, 3) := by decide +kernel
theorem dX10_better_83 : decode cX10_better 83 = .ok (.invokevirtual 254, 3) := by decide +kernel
theorem dX10_better_86 : decode cX10_better 86 = .ok (.istore_n 3, 1) := by decide +kernel
theorem dX10_better_87 : decode cX10_better 87 = .ok (.iload 4, 2) := by decide +kernel
theorem dX10_better_89 : decode cX10_better 89 = .ok (.istore_n 2, 1) := by decide +kernel
theorem dX10_better_90 : decode cX10_better 90 = .ok (.iinc 4 1, 3) := by decide +kernel
theorem dX10_better_93 : decode cX10_better 93 = .ok (.goto (-71), 3) := by decide +kernel
theorem dX10_better_96 : decode cX10_better 96 = .ok (.iload_n 2, 1) := by decide +kernel
theorem dX10_better_97 : decode cX10_better 97 = .ok (.ireturn, 1) := by decide +kernel
theorem dX10_forkAt_0 : decode cX10_forkAt 0 = .ok (.aload_n 0, 1) := by decide +kernel
theorem dX10_forkAt_1 : decode cX10_forkAt 1 = .ok (.invokevirtual 187, 3) := by decide +kernel
theorem dX10_forkAt_4 : decode cX10_forkAt 4 = .ok (.ifCond .eq 5, 3) := by decide +kernel
theorem dX10_forkAt_7 : decode cX10_forkAt 7 = .ok (.iconst (-1), 1) := by decide +kernel
theorem dX10_forkAt_8 : decode cX10_forkAt 8 = .ok (.ireturn, 1) := by decide +kernel
theorem dX10_forkAt_9 : decode cX10_forkAt 9 = .ok (.bipush (-2), 2) := by decide +kernel
theorem dX10_forkAt_11 : decode cX10_forkAt 11 = .ok (.istore_n 1, 1) := by decide +kernel
theorem dX10_forkAt_12 : decode cX10_forkAt 12 = .ok (.iconst 0, 1) := by decide +kernel
theorem dX10_forkAt_13 : decode cX10_forkAt 13 = .ok (.istore_n 2, 1) := by decide +kernel
theorem dX10_forkAt_14 : decode cX10_forkAt 14 = .ok (.iconst 0, 1) := by decide +kernel
theorem dX10_forkAt_15 : decode cX10_forkAt 15 = .ok (.istore_n 3, 1) := by decide +kernel
theorem dX10_forkAt_16 : decode cX10_forkAt 16 = .ok (.iload_n 3, 1) := by decide +kernel
theorem dX10_forkAt_17 : decode cX10_forkAt 17 = .ok (.aload_n 0, 1) := by decide +kernel
theorem dX10_forkAt_18 : decode cX10_forkAt 18 = .ok (.getfield 22, 3) := by decide +kernel
theorem dX10_forkAt_21 : decode cX10_forkAt 21 = .ok (.getfield 241, 3) := by decide +kernel
theorem dX10_forkAt_24 : decode cX10_forkAt 24 = .ok (.if_icmp .ge 79, 3) := by decide +kernel
theorem dX10_forkAt_27 : decode cX10_forkAt 27 = .ok (.aload_n 0, 1) := by decide +kernel
theorem dX10_forkAt_28 : decode cX10_forkAt 28 = .ok (.getfield 22, 3) := by decide +kernel
theorem dX10_forkAt_31 : decode cX10_forkAt 31 = .ok (.getfield 166, 3) := by decide +kernel
theorem dX10_forkAt_34 : decode cX10_forkAt 34 = .ok (.iload_n 3, 1) := by decide +kernel
theorem dX10_forkAt_35 : decode cX10_forkAt 35 = .ok (.invokestatic 257, 3) := by decide +kernel
theorem dX10_forkAt_38 : decode cX10_forkAt 38 = .ok (.ifCond .ne 59, 3) := by decide +kernel
theorem dX10_forkAt_41 : decode cX10_forkAt 41 = .ok (.aload_n 0, 1) := by decide +kernel
theorem dX10_forkAt_42 : decode cX10_forkAt 42 = .ok (.getfield 35, 3) := by decide +kernel
theorem dX10_forkAt_45 : decode cX10_forkAt 45 = .ok (.invokevirtual 247, 3) := by decide +kernel
theorem dX10_forkAt_48 : decode cX10_forkAt 48 = .ok (.aload_n 0, 1) := by decide +kernel
theorem dX10_forkAt_49 : decode cX10_forkAt 49 = .ok (.getfield 35, 3) := by decide +kernel
theorem dX10_forkAt_52 : decode cX10_forkAt 52 = .ok (.dup, 1) := by decide +kernel
theorem dX10_forkAt_53 : decode cX10_forkAt 53 = .ok (.getfield 260, 3) := by decide +kernel
theorem dX10_forkAt_56 : decode cX10_forkAt 56 = .ok (.iconst 1, 1) := by decide +kernel
theorem dX10_forkAt_57 : decode cX10_forkAt 57 = .ok (.iload_n 3, 1) := by decide +kernel
theorem dX10_forkAt_58 : decode cX10_forkAt 58 = .ok (.ishl, 1) := by decide +kernel
theorem dX10_forkAt_59 : decode cX10_forkAt 59 = .ok (.ior, 1) := by decide +kernel
theorem dX10_forkAt_60 : decode cX10_forkAt 60 = .ok (.putfield 260, 3) := by decide +kernel
theorem dX10_forkAt_63 : decode cX10_forkAt 63 = .ok (.aload_n 0, 1) := by decide +kernel
theorem dX10_forkAt_64 : decode cX10_forkAt 64 = .ok (.getfield 35, 3) := by decide +kernel
theorem dX10_forkAt_67 : decode cX10_forkAt 67 = .ok (.invokevirtual 251, 3) := by decide +kernel
theorem dX10_forkAt_70 : decode cX10_forkAt 70 = .ok (.iload_n 1, 1) := by decide +kernel
theorem dX10_forkAt_71 : decode cX10_forkAt 71 = .ok (.bipush (-2), 2) := by decide +kernel
theorem dX10_forkAt_73 : decode cX10_forkAt 73 = .ok (.if_icmp .eq 14, 3) := by decide +kernel
theorem dX10_forkAt_76 : decode cX10_forkAt 76 = .ok (.aload_n 0, 1) := by decide +kernel
theorem dX10_forkAt_77 : decode cX10_forkAt 77 = .ok (.getfield 35, 3) := by decide +kernel
theorem dX10_forkAt_80 : decode cX10_forkAt 80 = .ok (.getfield 200, 3) := by decide +kernel
theorem dX10_forkAt_83 : decode cX10_forkAt 83 = .ok (.iload_n 2, 1) := by decide +kernel
theorem dX10_forkAt_84 : decode cX10_forkAt 84 = .ok (.if_icmp .ge 13, 3) := by decide +kernel
theorem dX10_forkAt_87 : decode cX10_forkAt 87 = .ok (.aload_n 0, 1) := by decide +kernel
theorem dX10_forkAt_88 : decode cX10_forkAt 88 = .ok (.getfield 35, 3) := by decide +kernel
theorem dX10_forkAt_91 : decode cX10_forkAt 91 = .ok (.getfield 200, 3) := by decide +kernel
theorem dX10_forkAt_94 : decode cX10_forkAt 94 = .ok (.istore_n 2, 1) := by decide +kernel
theorem dX10_forkAt_95 : decode cX10_forkAt 95 = .ok (.iload_n 3, 1) := by decide +kernel
theorem dX10_forkAt_96 : decode cX10_forkAt 96 = .ok (.istore_n 1, 1) := by decide +kernel
theorem dX10_forkAt_97 : decode cX10_forkAt 97 = .ok (.iinc 3 1, 3) := by decide +kernel
theorem dX10_forkAt_100 : decode cX10_forkAt 100 = .ok (.goto (-84), 3) := by decide +kernel
theorem dX10_forkAt_103 : decode cX10_forkAt 103 = .ok (.iload_n 1, 1) := by decide +kernel
theorem dX10_forkAt_104 : decode cX10_forkAt 104 = .ok (.ireturn, 1) := by decide +kernel
theorem dX10_saws_0 : decode cX10_saws 0 = .ok (.aload_n 0, 1) := by decide +kernel
theorem dX10_saws_1 : decode cX10_saws 1 = .ok (.invokevirtual 187, 3) := by decide +kernel
theorem dX10_saws_4 : decode cX10_saws 4 = .ok (.ifCond .eq 5, 3) := by decide +kernel
theorem dX10_saws_7 : decode cX10_saws 7 = .ok (.iconst (-1), 1) := by decide +kernel
theorem dX10_saws_8 : decode cX10_saws 8 = .ok (.ireturn, 1) := by decide +kernel
theorem dX10_saws_9 : decode cX10_saws 9 = .ok (.aload_n 0, 1) := by decide +kernel
theorem dX10_saws_10 : decode cX10_saws 10 = .ok (.invokevirtual 261, 3) := by decide +kernel
theorem dX10_saws_13 : decode cX10_saws 13 = .ok (.aload_n 0, 1) := by decide +kernel
theorem dX10_saws_14 : decode cX10_saws 14 = .ok (.getfield 49, 3) := by decide +kernel
theorem dX10_saws_17 : decode cX10_saws 17 = .ok (.getfield 264, 3) := by decide +kernel
theorem dX10_saws_20 : decode cX10_saws 20 = .ok (.ireturn, 1) := by decide +kernel
theorem dX10_sawsOf_0 : decode cX10_sawsOf 0 = .ok (.aload_n 0, 1) := by decide +kernel
theorem dX10_sawsOf_1 : decode cX10_sawsOf 1 = .ok (.iload_n 1, 1) := by decide +kernel
theorem dX10_sawsOf_2 : decode cX10_sawsOf 2 = .ok (.invokevirtual 142, 3) := by decide +kernel
theorem dX10_sawsOf_5 : decode cX10_sawsOf 5 = .ok (.ifCond .eq 5, 3) := by decide +kernel
theorem dX10_sawsOf_8 : decode cX10_sawsOf 8 = .ok (.iconst (-1), 1) := by decide +kernel
theorem dX10_sawsOf_9 : decode cX10_sawsOf 9 = .ok (.ireturn, 1) := by decide +kernel
theorem dX10_sawsOf_10 : decode cX10_sawsOf 10 = .ok (.aload_n 0, 1) := by decide +kernel
theorem dX10_sawsOf_11 : decode cX10_sawsOf 11 = .ok (.invokevirtual 261, 3) := by decide +kernel
theorem dX10_sawsOf_14 : decode cX10_sawsOf 14 = .ok (.aload_n 0, 1) := by decide +kernel
theorem dX10_sawsOf_15 : decode cX10_sawsOf 15 = .ok (.getfield 49, 3) := by decide +kernel
theorem dX10_sawsOf_18 : decode cX10_sawsOf 18 = .ok (.getfield 264, 3) := by decide +kernel
theorem dX10_sawsOf_21 : decode cX10_sawsOf 21 = .ok (.ifCond .ge 6, 3) := by decide +kernel
theorem dX10_sawsOf_24 : decode cX10_sawsOf 24 = .ok (.bipush (-2), 2) := by decide +kernel
theorem dX10_sawsOf_26 : decode cX10_sawsOf 26 = .ok (.ireturn, 1) := by decide +kernel
theorem dX10_sawsOf_27 : decode cX10_sawsOf 27 = .ok (.aload_n 0, 1) := by decide +kernel
theorem dX10_sawsOf_28 : decode cX10_sawsOf 28 = .ok (.getfield 49, 3) := by decide +kernel
theorem dX10_sawsOf_31 : decode cX10_sawsOf 31 = .ok (.getfield 267, 3) := by decide +kernel
theorem dX10_sawsOf_34 : decode cX10_sawsOf 34 = .ok (.iload_n 1, 1) := by decide +kernel
theorem dX10_sawsOf_35 : decode cX10_sawsOf 35 = .ok (.invokestatic 257, 3) := by decide +kernel
theorem dX10_sawsOf_38 : decode cX10_sawsOf 38 = .ok (.ifCond .eq 15, 3) := by decide +kernel
theorem dX10_sawsOf_41 : decode cX10_sawsOf 41 = .ok (.aload_n 0, 1) := by decide +kernel
theorem dX10_sawsOf_42 : decode cX10_sawsOf 42 = .ok (.getfield 49, 3) := by decide +kernel
theorem dX10_sawsOf_45 : decode cX10_sawsOf 45 = .ok (.getfield 270, 3) := by decide +kernel
theorem dX10_sawsOf_48 : decode cX10_sawsOf 48 = .ok (.iload_n 1, 1) := by decide +kernel
theorem dX10_sawsOf_49 : decode cX10_sawsOf 49 = .ok (.iaload, 1) := by decide +kernel
theorem dX10_sawsOf_50 : decode cX10_sawsOf 50 = .ok (.goto 4, 3) := by decide +kernel
theorem dX10_sawsOf_53 : decode cX10_sawsOf 53 = .ok (.iconst 0, 1) := by decide +kernel
theorem dX10_sawsOf_54 : decode cX10_sawsOf 54 = .ok (.ireturn, 1) := by decide +kernel
theorem dX10_meet_0 : decode cX10_meet 0 = .ok (.aload_n 0, 1) := by decide +kernel
theorem dX10_meet_1 : decode cX10_meet 1 = .ok (.invokevirtual 187, 3) := by decide +kernel
theorem dX10_meet_4 : decode cX10_meet 4 = .ok (.ifCond .eq 5, 3) := by decide +kernel
theorem dX10_meet_7 : decode cX10_meet 7 = .ok (.iconst (-1), 1) := by decide +kernel
theorem dX10_meet_8 : decode cX10_meet 8 = .ok (.ireturn, 1) := by decide +kernel
theorem dX10_meet_9 : decode cX10_meet 9 = .ok (.iload_n 1, 1) := by decide +kernel
theorem dX10_meet_10 : decode cX10_meet 10 = .ok (.bipush 60, 2) := by decide +kernel
theorem dX10_meet_12 : decode cX10_meet 12 = .ok (.invokestatic 216, 3) := by decide +kernel
theorem dX10_meet_15 : decode cX10_meet 15 = .ok (.ifCond .ne 9, 3) := by decide +kernel
theorem dX10_meet_18 : decode cX10_meet 18 = .ok (.aload_n 0, 1) := by decide +kernel
theorem dX10_meet_19 : decode cX10_meet 19 = .ok (.iconst 2, 1) := by decide +kernel
theorem dX10_meet_20 : decode cX10_meet 20 = .ok (.invokevirtual 87, 3) := by decide +kernel
theorem dX10_meet_23 : decode cX10_meet 23 = .ok (.ireturn, 1) := by decide +kernel
theorem dX10_meet_24 : decode cX10_meet 24 = .ok (.aload_n 0, 1) := by decide +kernel
theorem dX10_meet_25 : decode cX10_meet 25 = .ok (.iload_n 1, 1) := by decide +kernel
theorem dX10_meet_26 : decode cX10_meet 26 = .ok (.invokevirtual 273, 3) := by decide +kernel
theorem dX10_meet_29 : decode cX10_meet 29 = .ok (.aload_n 0, 1) := by decide +kernel
theorem dX10_meet_30 : decode cX10_meet 30 = .ok (.getfield 49, 3) := by decide +kernel
theorem dX10_meet_33 : decode cX10_meet 33 = .ok (.getfield 264, 3) := by decide +kernel
theorem dX10_meet_36 : decode cX10_meet 36 = .ok (.ireturn, 1) := by decide +kernel
theorem dX10_meetAt_0 : decode cX10_meetAt 0 = .ok (.aload_n 0, 1) := by decide +kernel
theorem dX10_meetAt_1 : decode cX10_meetAt 1 = .ok (.invokevirtual 187, 3) := by decide +kernel
theorem dX10_meetAt_4 : decode cX10_meetAt 4 = .ok (.ifCond .eq 5, 3) := by decide +kernel
theorem dX10_meetAt_7 : decode cX10_meetAt 7 = .ok (.iconst (-1), 1) := by decide +kernel
theorem dX10_meetAt_8 : decode cX10_meetAt 8 = .ok (.ireturn, 1) := by decide +kernel
theorem dX10_meetAt_9 : decode cX10_meetAt 9 = .ok (.iload_n 1, 1) := by decide +kernel
theorem dX10_meetAt_10 : decode cX10_meetAt 10 = .ok (.bipush 60, 2) := by decide +kernel
theorem dX10_meetAt_12 : decode cX10_meetAt 12 = .ok (.invokestatic 216, 3) := by decide +kernel
theorem dX10_meetAt_15 : decode cX10_meetAt 15 = .ok (.ifCond .ne 9, 3) := by decide +kernel
theorem dX10_meetAt_18 : decode cX10_meetAt 18 = .ok (.aload_n 0, 1) := by decide +kernel
theorem dX10_meetAt_19 : decode cX10_meetAt 19 = .ok (.iconst 2, 1) := by decide +kernel
theorem dX10_meetAt_20 : decode cX10_meetAt 20 = .ok (.invokevirtual 87, 3) := by decide +kernel
theorem dX10_meetAt_23 : decode cX10_meetAt 23 = .ok (.ireturn, 1) := by decide +kernel
theorem dX10_meetAt_24 : decode cX10_meetAt 24 = .ok (.aload_n 0, 1) := by decide +kernel
theorem dX10_meetAt_25 : decode cX10_meetAt 25 = .ok (.iload_n 1, 1) := by decide +kernel
theorem dX10_meetAt_26 : decode cX10_meetAt 26 = .ok (.invokevirtual 273, 3) := by decide +kernel
theorem dX10_meetAt_29 : decode cX10_meetAt 29 = .ok (.aload_n 0, 1) := by decide +kernel
theorem dX10_meetAt_30 : decode cX10_meetAt 30 = .ok (.getfield 49, 3) := by decide +kernel
theorem dX10_meetAt_33 : decode cX10_meetAt 33 = .ok (.getfield 264, 3) := by decide +kernel
theorem dX10_meetAt_36 : decode cX10_meetAt 36 = .ok (.ifCond .ge 8, 3) := by decide +kernel
theorem dX10_meetAt_39 : decode cX10_meetAt 39 = .ok (.bipush (-2), 2) := by decide +kernel
theorem dX10_meetAt_41 : decode cX10_meetAt 41 = .ok (.goto 10, 3) := by decide +kernel
theorem dX10_meetAt_44 : decode cX10_meetAt 44 = .ok (.aload_n 0, 1) := by decide +kernel
theorem dX10_meetAt_45 : decode cX10_meetAt 45 = .ok (.getfield 49, 3) := by decide +kernel
theorem dX10_meetAt_48 : decode cX10_meetAt 48 = .ok (.getfield 267, 3) := by decide +kernel
theorem dX10_meetAt_51 : decode cX10_meetAt 51 = .ok (.ireturn, 1) := by decide +kernel
theorem dX10_stable_0 : decode cX10_stable 0 = .ok (.aload_n 0, 1) := by decide +kernel
theorem dX10_stable_1 : decode cX10_stable 1 = .ok (.invokevirtual 187, 3) := by decide +kernel
theorem dX10_stable_4 : decode cX10_stable 4 = .ok (.ifCond .eq 5, 3) := by decide +kernel
theorem dX10_stable_7 : decode cX10_stable 7 = .ok (.iconst (-1), 1) := by decide +kernel
theorem dX10_stable_8 : decode cX10_stable 8 = .ok (.ireturn, 1) := by decide +kernel
theorem dX10_stable_9 : decode cX10_stable 9 = .ok (.aload_n 0, 1) := by decide +kernel
theorem dX10_stable_10 : decode cX10_stable 10 = .ok (.invokevirtual 194, 3) := by decide +kernel
theorem dX10_stable_13 : decode cX10_stable 13 = .ok (.iconst 0, 1) := by decide +kernel
theorem dX10_stable_14 : decode cX10_stable 14 = .ok (.istore_n 1, 1) := by decide +kernel
theorem dX10_stable_15 : decode cX10_stable 15 = .ok (.iconst 0, 1) := by decide +kernel
theorem dX10_stable_16 : decode cX10_stable 16 = .ok (.istore_n 2, 1) := by decide +kernel
theorem dX10_stable_17 : decode cX10_stable 17 = .ok (.iload_n 2, 1) := by decide +kernel
theorem dX10_stable_18 : decode cX10_stable 18 = .ok (.aload_n 0, 1) := by decide +kernel
theorem dX10_stable_19 : decode cX10_stable 19 = .ok (.getfield 35, 3) := by decide +kernel
theorem dX10_stable_22 : decode cX10_stable 22 = .ok (.getfield 209, 3) := by decide +kernel
theorem dX10_stable_25 : decode cX10_stable 25 = .ok (.getfield 213, 3) := by decide +kernel
theorem dX10_stable_28 : decode cX10_stable 28 = .ok (.if_icmp .ge 34, 3) := by decide +kernel
theorem dX10_stable_31 : decode cX10_stable 31 = .ok (.aload_n 0, 1) := by decide +kernel
theorem dX10_stable_32 : decode cX10_stable 32 = .ok (.getfield 35, 3) := by decide +kernel
theorem dX10_stable_35 : decode cX10_stable 35 = .ok (.aload_n 0, 1) := by decide +kernel
theorem dX10_stable_36 : decode cX10_stable 36 = .ok (.getfield 35, 3) := by decide +kernel
theorem dX10_stable_39 : decode cX10_stable 39 = .ok (.getfield 209, 3) := by decide +kernel
theorem dX10_stable_42 : decode cX10_stable 42 = .ok (.getfield 276, 3) := by decide +kernel
theorem dX10_stable_45 : decode cX10_stable 45 = .ok (.iload_n 2, 1) := by decide +kernel
theorem dX10_stable_46 : decode cX10_stable 46 = .ok (.iaload, 1) := by decide +kernel
theorem dX10_stable_47 : decode cX10_stable 47 = .ok (.invokevirtual 279, 3) := by decide +kernel
theorem dX10_stable_50 : decode cX10_stable 50 = .ok (.ifCond .eq 6, 3) := by decide +kernel
theorem dX10_stable_53 : decode cX10_stable 53 = .ok (.iinc 1 1, 3) := by decide +kernel
theorem dX10_stable_56 : decode cX10_stable 56 = .ok (.iinc 2 1, 3) := by decide +kernel
theorem dX10_stable_59 : decode cX10_stable 59 = .ok (.goto (-42), 3) := by decide +kernel
theorem dX10_stable_62 : decode cX10_stable 62 = .ok (.iload_n 1, 1) := by decide +kernel
theorem dX10_stable_63 : decode cX10_stable 63 = .ok (.ireturn, 1) := by decide +kernel
theorem dX10_stableAt_0 : decode cX10_stableAt 0 = .ok (.aload_n 0, 1) := by decide +kernel
theorem dX10_stableAt_1 : decode cX10_stableAt 1 = .ok (.invokevirtual 187, 3) := by decide +kernel
theorem dX10_stableAt_4 : decode cX10_stableAt 4 = .ok (.ifCond .eq 5, 3) := by decide +kernel
theorem dX10_stableAt_7 : decode cX10_stableAt 7 = .ok (.iconst (-1), 1) := by decide +kernel
theorem dX10_stableAt_8 : decode cX10_stableAt 8 = .ok (.ireturn, 1) := by decide +kernel
theorem dX10_stableAt_9 : decode cX10_stableAt 9 = .ok (.aload_n 0, 1) := by decide +kernel
theorem dX10_stableAt_10 : decode cX10_stableAt 10 = .ok (.invokevirtual 194, 3) := by decide +kernel
theorem dX10_stableAt_13 : decode cX10_stableAt 13 = .ok (.iconst 0, 1) := by decide +kernel
theorem dX10_stableAt_14 : decode cX10_stableAt 14 = .ok (.istore_n 2, 1) := by decide +kernel
theorem dX10_stableAt_15 : decode cX10_stableAt 15 = .ok (.iconst 0, 1) := by decide +kernel
theorem dX10_stableAt_16 : decode cX10_stableAt 16 = .ok (.istore_n 3, 1) := by decide +kernel
theorem dX10_stableAt_17 : decode cX10_stableAt 17 = .ok (.iload_n 3, 1) := by decide +kernel
theorem dX10_stableAt_18 : decode cX10_stableAt 18 = .ok (.aload_n 0, 1) := by decide +kernel
theorem dX10_stableAt_19 : decode cX10_stableAt 19 = .ok (.getfield 35, 3) := by decide +kernel
theorem dX10_stableAt_22 : decode cX10_stableAt 22 = .ok (.getfield 209, 3) := by decide +kernel
theorem dX10_stableAt_25 : decode cX10_stableAt 25 = .ok (.getfield 213, 3) := by decide +kernel
theorem dX10_stableAt_28 : decode cX10_stableAt 28 = .ok (.if_icmp .ge 52, 3) := by decide +kernel
theorem dX10_stableAt_31 : decode cX10_stableAt 31 = .ok (.aload_n 0, 1) := by decide +kernel
theorem dX10_stableAt_32 : decode cX10_stableAt 32 = .ok (.getfield 35, 3) := by decide +kernel
theorem dX10_stableAt_35 : decode cX10_stableAt 35 = .ok (.aload_n 0, 1) := by decide +kernel
theorem dX10_stableAt_36 : decode cX10_stableAt 36 = .ok (.getfield 35, 3) := by decide +kernel
theorem dX10_stableAt_39 : decode cX10_stableAt 39 = .ok (.getfield 209, 3) := by decide +kernel
theorem dX10_stableAt_42 : decode cX10_stableAt 42 = .ok (.getfield 276, 3) := by decide +kernel
theorem dX10_stableAt_45 : decode cX10_stableAt 45 = .ok (.iload_n 3, 1) := by decide +kernel
theorem dX10_stableAt_46 : decode cX10_stableAt 46 = .ok (.iaload, 1) := by decide +kernel
theorem dX10_stableAt_47 : decode cX10_stableAt 47 = .ok (.invokevirtual 279, 3) := by decide +kernel
theorem dX10_stableAt_50 : decode cX10_stableAt 50 = .ok (.ifCond .eq 24, 3) := by decide +kernel
theorem dX10_stableAt_53 : decode cX10_stableAt 53 = .ok (.iload_n 2, 1) := by decide +kernel
theorem dX10_stableAt_54 : decode cX10_stableAt 54 = .ok (.iload_n 1, 1) := by decide +kernel
theorem dX10_stableAt_55 : decode cX10_stableAt 55 = .ok (.if_icmp .ne 16, 3) := by decide +kernel
theorem dX10_stableAt_58 : decode cX10_stableAt 58 = .ok (.aload_n 0, 1) := by decide +kernel
theorem dX10_stableAt_59 : decode cX10_stableAt 59 = .ok (.getfield 35, 3) := by decide +kernel
theorem dX10_stableAt_62 : decode cX10_stableAt 62 = .ok (.getfield 209, 3) := by decide +kernel
theorem dX10_stableAt_65 : decode cX10_stableAt 65 = .ok (.getfield 276, 3) := by decide +kernel
theorem dX10_stableAt_68 : decode cX10_stableAt 68 = .ok (.iload_n 3, 1) := by decide +kernel
theorem dX10_stableAt_69 : decode cX10_stableAt 69 = .ok (.iaload, 1) := by decide +kernel
theorem dX10_stableAt_70 : decode cX10_stableAt 70 = .ok (.ireturn, 1) := by decide +kernel
theorem dX10_stableAt_71 : decode cX10_stableAt 71 = .ok (.iinc 2 1, 3) := by decide +kernel
theorem dX10_stableAt_74 : decode cX10_stableAt 74 = .ok (.iinc 3 1, 3) := by decide +kernel
theorem dX10_stableAt_77 : decode cX10_stableAt 77 = .ok (.goto (-60), 3) := by decide +kernel
theorem dX10_stableAt_80 : decode cX10_stableAt 80 = .ok (.aload_n 0, 1) := by decide +kernel
theorem dX10_stableAt_81 : decode cX10_stableAt 81 = .ok (.iconst 1, 1) := by decide +kernel
theorem dX10_stableAt_82 : decode cX10_stableAt 82 = .ok (.invokevirtual 87, 3) := by decide +kernel
theorem dX10_stableAt_85 : decode cX10_stableAt 85 = .ok (.ireturn, 1) := by decide +kernel
theorem dX10_leaves_0 : decode cX10_leaves 0 = .ok (.aload_n 0, 1) := by decide +kernel
theorem dX10_leaves_1 : decode cX10_leaves 1 = .ok (.invokevirtual 187, 3) := by decide +kernel
theorem dX10_leaves_4 : decode cX10_leaves 4 = .ok (.ifCond .eq 5, 3) := by decide +kernel
theorem dX10_leaves_7 : decode cX10_leaves 7 = .ok (.iconst (-1), 1) := by decide +kernel
theorem dX10_leaves_8 : decode cX10_leaves 8 = .ok (.ireturn, 1) := by decide +kernel
theorem dX10_leaves_9 : decode cX10_leaves 9 = .ok (.aload_n 0, 1) := by decide +kernel
theorem dX10_leaves_10 : decode cX10_leaves 10 = .ok (.invokevirtual 194, 3) := by decide +kernel
theorem dX10_leaves_13 : decode cX10_leaves 13 = .ok (.iconst 0, 1) := by decide +kernel
theorem dX10_leaves_14 : decode cX10_leaves 14 = .ok (.istore_n 1, 1) := by decide +kernel
theorem dX10_leaves_15 : decode cX10_leaves 15 = .ok (.iload_n 1, 1) := by decide +kernel
theorem dX10_leaves_16 : decode cX10_leaves 16 = .ok (.aload_n 0, 1) := by decide +kernel
theorem dX10_leaves_17 : decode cX10_leaves 17 = .ok (.getfield 26, 3) := by decide +kernel
theorem dX10_leaves_20 : decode cX10_leaves 20 = .ok (.getfield 282, 3) := by decide +kernel
theorem dX10_leaves_23 : decode cX10_leaves 23 = .ok (.if_icmp .ge 29, 3) := by decide +kernel
theorem dX10_leaves_26 : decode cX10_leaves 26 = .ok (.aload_n 0, 1) := by decide +kernel
theorem dX10_leaves_27 : decode cX10_leaves 27 = .ok (.getfield 35, 3) := by decide +kernel
theorem dX10_leaves_30 : decode cX10_leaves 30 = .ok (.iload_n 1, 1) := by decide +kernel
theorem dX10_leaves_31 : decode cX10_leaves 31 = .ok (.aload_n 0, 1) := by decide +kernel
theorem dX10_leaves_32 : decode cX10_leaves 32 = .ok (.getfield 35, 3) := by decide +kernel
theorem dX10_leaves_35 : decode cX10_leaves 35 = .ok (.getfield 197, 3) := by decide +kernel
theorem dX10_leaves_38 : decode cX10_leaves 38 = .ok (.invokevirtual 285, 3) := by decide +kernel
theorem dX10_leaves_41 : decode cX10_leaves 41 = .ok (.ifCond .eq 5, 3) := by decide +kernel
theorem dX10_leaves_44 : decode cX10_leaves 44 = .ok (.iload_n 1, 1) := by decide +kernel
theorem dX10_leaves_45 : decode cX10_leaves 45 = .ok (.ireturn, 1) := by decide +kernel
theorem dX10_leaves_46 : decode cX10_leaves 46 = .ok (.iinc 1 1, 3) := by decide +kernel
theorem dX10_leaves_49 : decode cX10_leaves 49 = .ok (.goto (-34), 3) := by decide +kernel
theorem dX10_leaves_52 : decode cX10_leaves 52 = .ok (.bipush (-2), 2) := by decide +kernel
theorem dX10_leaves_54 : decode cX10_leaves 54 = .ok (.ireturn, 1) := by decide +kernel
theorem dX10_fits_0 : decode cX10_fits 0 = .ok (.aload_n 0, 1) := by decide +kernel
theorem dX10_fits_1 : decode cX10_fits 1 = .ok (.invokevirtual 187, 3) := by decide +kernel
theorem dX10_fits_4 : decode cX10_fits 4 = .ok (.ifCond .eq 5, 3) := by decide +kernel
theorem dX10_fits_7 : decode cX10_fits 7 = .ok (.iconst (-1), 1) := by decide +kernel
theorem dX10_fits_8 : decode cX10_fits 8 = .ok (.ireturn, 1) := by decide +kernel
theorem dX10_fits_9 : decode cX10_fits 9 = .ok (.aload_n 0, 1) := by decide +kernel
theorem dX10_fits_10 : decode cX10_fits 10 = .ok (.getfield 58, 3) := by decide +kernel
theorem dX10_fits_13 : decode cX10_fits 13 = .ok (.invokevirtual 288, 3) := by decide +kernel
theorem dX10_fits_16 : decode cX10_fits 16 = .ok (.aload_n 0, 1) := by decide +kernel
theorem dX10_fits_17 : decode cX10_fits 17 = .ok (.getfield 58, 3) := by decide +kernel
theorem dX10_fits_20 : decode cX10_fits 20 = .ok (.getfield 291, 3) := by decide +kernel
theorem dX10_fits_23 : decode cX10_fits 23 = .ok (.ireturn, 1) := by decide +kernel
theorem dX10_fitAt_0 : decode cX10_fitAt 0 = .ok (.aload_n 0, 1) := by decide +kernel
theorem dX10_fitAt_1 : decode cX10_fitAt 1 = .ok (.invokevirtual 187, 3) := by decide +kernel
theorem dX10_fitAt_4 : decode cX10_fitAt 4 = .ok (.ifCond .eq 5, 3) := by decide +kernel
theorem dX10_fitAt_7 : decode cX10_fitAt 7 = .ok (.iconst (-1), 1) := by decide +kernel
theorem dX10_fitAt_8 : decode cX10_fitAt 8 = .ok (.ireturn, 1) := by decide +kernel
theorem dX10_fitAt_9 : decode cX10_fitAt 9 = .ok (.aload_n 0, 1) := by decide +kernel
theorem dX10_fitAt_10 : decode cX10_fitAt 10 = .ok (.getfield 58, 3) := by decide +kernel
theorem dX10_fitAt_13 : decode cX10_fitAt 13 = .ok (.invokevirtual 288, 3) := by decide +kernel
theorem dX10_fitAt_16 : decode cX10_fitAt 16 = .ok (.iload_n 1, 1) := by decide +kernel
theorem dX10_fitAt_17 : decode cX10_fitAt 17 = .ok (.ifCond .lt 26, 3) := by decide +kernel
theorem dX10_fitAt_20 : decode cX10_fitAt 20 = .ok (.iload_n 1, 1) := by decide +kernel
theorem dX10_fitAt_21 : decode cX10_fitAt 21 = .ok (.aload_n 0, 1) := by decide +kernel
theorem dX10_fitAt_22 : decode cX10_fitAt 22 = .ok (.getfield 58, 3) := by decide +kernel
theorem dX10_fitAt_25 : decode cX10_fitAt 25 = .ok (.getfield 291, 3) := by decide +kernel
theorem dX10_fitAt_28 : decode cX10_fitAt 28 = .ok (.if_icmp .ge 15, 3) := by decide +kernel
theorem dX10_fitAt_31 : decode cX10_fitAt 31 = .ok (.aload_n 0, 1) := by decide +kernel
theorem dX10_fitAt_32 : decode cX10_fitAt 32 = .ok (.getfield 58, 3) := by decide +kernel
theorem dX10_fitAt_35 : decode cX10_fitAt 35 = .ok (.getfield 292, 3) := by decide +kernel
theorem dX10_fitAt_38 : decode cX10_fitAt 38 = .ok (.iload_n 1, 1) := by decide +kernel
theorem dX10_fitAt_39 : decode cX10_fitAt 39 = .ok (.iaload, 1) := by decide +kernel
theorem dX10_fitAt_40 : decode cX10_fitAt 40 = .ok (.goto 8, 3) := by decide +kernel
theorem dX10_fitAt_43 : decode cX10_fitAt 43 = .ok (.aload_n 0, 1) := by decide +kernel
theorem dX10_fitAt_44 : decode cX10_fitAt 44 = .ok (.iconst 1, 1) := by decide +kernel
theorem dX10_fitAt_45 : decode cX10_fitAt 45 = .ok (.invokevirtual 87, 3) := by decide +kernel
theorem dX10_fitAt_48 : decode cX10_fitAt 48 = .ok (.ireturn, 1) := by decide +kernel
theorem dX10_could_0 : decode cX10_could 0 = .ok (.aload_n 0, 1) := by decide +kernel
theorem dX10_could_1 : decode cX10_could 1 = .ok (.invokevirtual 187, 3) := by decide +kernel
theorem dX10_could_4 : decode cX10_could 4 = .ok (.ifCond .eq 5, 3) := by decide +kernel
theorem dX10_could_7 : decode cX10_could 7 = .ok (.iconst (-1), 1) := by decide +kernel
theorem dX10_could_8 : decode cX10_could 8 = .ok (.ireturn, 1) := by decide +kernel
theorem dX10_could_9 : decode cX10_could 9 = .ok (.aload_n 0, 1) := by decide +kernel
theorem dX10_could_10 : decode cX10_could 10 = .ok (.getfield 58, 3) := by decide +kernel
theorem dX10_could_13 : decode cX10_could 13 = .ok (.invokevirtual 288, 3) := by decide +kernel
theorem dX10_could_16 : decode cX10_could 16 = .ok (.iconst 0, 1) := by decide +kernel
theorem dX10_could_17 : decode cX10_could 17 = .ok (.istore_n 1, 1) := by decide +kernel
theorem dX10_could_18 : decode cX10_could 18 = .ok (.iconst 0, 1) := by decide +kernel
theorem dX10_could_19 : decode cX10_could 19 = .ok (.istore_n 2, 1) := by decide +kernel
theorem dX10_could_20 : decode cX10_could 20 = .ok (.iload_n 2, 1) := by decide +kernel
theorem dX10_could_21 : decode cX10_could 21 = .ok (.aload_n 0, 1) := by decide +kernel
theorem dX10_could_22 : decode cX10_could 22 = .ok (.getfield 58, 3) := by decide +kernel
theorem dX10_could_25 : decode cX10_could 25 = .ok (.getfield 291, 3) := by decide +kernel
theorem dX10_could_28 : decode cX10_could 28 = .ok (.if_icmp .ge 21, 3) := by decide +kernel
theorem dX10_could_31 : decode cX10_could 31 = .ok (.iload_n 1, 1) := by decide +kernel
theorem dX10_could_32 : decode cX10_could 32 = .ok (.aload_n 0, 1) := by decide +kernel
theorem dX10_could_33 : decode cX10_could 33 = .ok (.getfield 58, 3) := by decide +kernel
theorem dX10_could_36 : decode cX10_could 36 = .ok (.getfield 292, 3) := by decide +kernel
theorem dX10_could_39 : decode cX10_could 39 = .ok (.iload_n 2, 1) := by decide +kernel
theorem dX10_could_40 : decode cX10_could 40 = .ok (.iaload, 1) := by decide +kernel
theorem dX10_could_41 : decode cX10_could 41 = .ok (.ior, 1) := by decide +kernel
theorem dX10_could_42 : decode cX10_could 42 = .ok (.istore_n 1, 1) := by decide +kernel
theorem dX10_could_43 : decode cX10_could 43 = .ok (.iinc 2 1, 3) := by decide +kernel
theorem dX10_could_46 : decode cX10_could 46 = .ok (.goto (-26), 3) := by decide +kernel
theorem dX10_could_49 : decode cX10_could 49 = .ok (.iload_n 1, 1) := by decide +kernel
theorem dX10_could_50 : decode cX10_could 50 = .ok (.ireturn, 1) := by decide +kernel
theorem dX10_surely_0 : decode cX10_surely 0 = .ok (.aload_n 0, 1) := by decide +kernel
theorem dX10_surely_1 : decode cX10_surely 1 = .ok (.invokevirtual 187, 3) := by decide +kernel
theorem dX10_surely_4 : decode cX10_surely 4 = .ok (.ifCond .eq 5, 3) := by decide +kernel
theorem dX10_surely_7 : decode cX10_surely 7 = .ok (.iconst (-1), 1) := by decide +kernel
theorem dX10_surely_8 : decode cX10_surely 8 = .ok (.ireturn, 1) := by decide +kernel
theorem dX10_surely_9 : decode cX10_surely 9 = .ok (.aload_n 0, 1) := by decide +kernel
theorem dX10_surely_10 : decode cX10_surely 10 = .ok (.getfield 58, 3) := by decide +kernel
theorem dX10_surely_13 : decode cX10_surely 13 = .ok (.invokevirtual 288, 3) := by decide +kernel
theorem dX10_surely_16 : decode cX10_surely 16 = .ok (.aload_n 0, 1) := by decide +kernel
theorem dX10_surely_17 : decode cX10_surely 17 = .ok (.getfield 58, 3) := by decide +kernel
theorem dX10_surely_20 : decode cX10_surely 20 = .ok (.getfield 291, 3) := by decide +kernel
theorem dX10_surely_23 : decode cX10_surely 23 = .ok (.ifCond .ne 7, 3) := by decide +kernel
theorem dX10_surely_26 : decode cX10_surely 26 = .ok (.iconst 0, 1) := by decide +kernel
theorem dX10_surely_27 : decode cX10_surely 27 = .ok (.goto 14, 3) := by decide +kernel
theorem dX10_surely_30 : decode cX10_surely 30 = .ok (.iconst 1, 1) := by decide +kernel
theorem dX10_surely_31 : decode cX10_surely 31 = .ok (.aload_n 0, 1) := by decide +kernel
theorem dX10_surely_32 : decode cX10_surely 32 = .ok (.getfield 22, 3) := by decide +kernel
theorem dX10_surely_35 : decode cX10_surely 35 = .ok (.getfield 295, 3) := by decide +kernel
theorem dX10_surely_38 : decode cX10_surely 38 = .ok (.ishl, 1) := by decide +kernel
theorem dX10_surely_39 : decode cX10_surely 39 = .ok (.iconst 1, 1) := by decide +kernel
theorem dX10_surely_40 : decode cX10_surely 40 = .ok (.isub, 1) := by decide +kernel
theorem dX10_surely_41 : decode cX10_surely 41 = .ok (.istore_n 1, 1) := by decide +kernel
theorem dX10_surely_42 : decode cX10_surely 42 = .ok (.iconst 0, 1) := by decide +kernel
theorem dX10_surely_43 : decode cX10_surely 43 = .ok (.istore_n 2, 1) := by decide +kernel
theorem dX10_surely_44 : decode cX10_surely 44 = .ok (.iload_n 2, 1) := by decide +kernel
theorem dX10_surely_45 : decode cX10_surely 45 = .ok (.aload_n 0, 1) := by decide +kernel
theorem dX10_surely_46 : decode cX10_surely 46 = .ok (.getfield 58, 3) := by decide +kernel
theorem dX10_surely_49 : decode cX10_surely 49 = .ok (.getfield 291, 3) := by decide +kernel
theorem dX10_surely_52 : decode cX10_surely 52 = .ok (.if_icmp .ge 21, 3) := by decide +kernel
theorem dX10_surely_55 : decode cX10_surely 55 = .ok (.iload_n 1, 1) := by decide +kernel
theorem dX10_surely_56 : decode cX10_surely 56 = .ok (.aload_n 0, 1) := by decide +kernel
theorem dX10_surely_57 : decode cX10_surely 57 = .ok (.getfield 58, 3) := by decide +kernel
theorem dX10_surely_60 : decode cX10_surely 60 = .ok (.getfield 292, 3) := by decide +kernel
theorem dX10_surely_63 : decode cX10_surely 63 = .ok (.iload_n 2, 1) := by decide +kernel
theorem dX10_surely_64 : decode cX10_surely 64 = .ok (.iaload, 1) := by decide +kernel
theorem dX10_surely_65 : decode cX10_surely 65 = .ok (.iand, 1) := by decide +kernel
theorem dX10_surely_66 : decode cX10_surely 66 = .ok (.istore_n 1, 1) := by decide +kernel
theorem dX10_surely_67 : decode cX10_surely 67 = .ok (.iinc 2 1, 3) := by decide +kernel
theorem dX10_surely_70 : decode cX10_surely 70 = .ok (.goto (-26), 3) := by decide +kernel
theorem dX10_surely_73 : decode cX10_surely 73 = .ok (.iload_n 1, 1) := by decide +kernel
theorem dX10_surely_74 : decode cX10_surely 74 = .ok (.ireturn, 1) := by decide +kernel
theorem dX10_ask_0 : decode cX10_ask 0 = .ok (.aload_n 0, 1) := by decide +kernel
theorem dX10_ask_1 : decode cX10_ask 1 = .ok (.invokevirtual 187, 3) := by decide +kernel
theorem dX10_ask_4 : decode cX10_ask 4 = .ok (.ifCond .eq 5, 3) := by decide +kernel
theorem dX10_ask_7 : decode cX10_ask 7 = .ok (.iconst (-1), 1) := by decide +kernel
theorem dX10_ask_8 : decode cX10_ask 8 = .ok (.ireturn, 1) := by decide +kernel
theorem dX10_ask_9 : decode cX10_ask 9 = .ok (.aload_n 0, 1) := by decide +kernel
theorem dX10_ask_10 : decode cX10_ask 10 = .ok (.getfield 58, 3) := by decide +kernel
theorem dX10_ask_13 : decode cX10_ask 13 = .ok (.invokevirtual 288, 3) := by decide +kernel
theorem dX10_ask_16 : decode cX10_ask 16 = .ok (.aload_n 0, 1) := by decide +kernel
theorem dX10_ask_17 : decode cX10_ask 17 = .ok (.getfield 58, 3) := by decide +kernel
theorem dX10_ask_20 : decode cX10_ask 20 = .ok (.invokevirtual 298, 3) := by decide +kernel
theorem dX10_ask_23 : decode cX10_ask 23 = .ok (.ireturn, 1) := by decide +kernel
theorem dX10_askLeaves_0 : decode cX10_askLeaves 0 = .ok (.aload_n 0, 1) := by decide +kernel
theorem dX10_askLeaves_1 : decode cX10_askLeaves 1 = .ok (.invokevirtual 187, 3) := by decide +kernel
theorem dX10_askLeaves_4 : decode cX10_askLeaves 4 = .ok (.ifCond .eq 5, 3) := by decide +kernel
theorem dX10_askLeaves_7 : decode cX10_askLeaves 7 = .ok (.iconst (-1), 1) := by decide +kernel
theorem dX10_askLeaves_8 : decode cX10_askLeaves 8 = .ok (.ireturn, 1) := by decide +kernel
theorem dX10_askLeaves_9 : decode cX10_askLeaves 9 = .ok (.aload_n 0, 1) := by decide +kernel
theorem dX10_askLeaves_10 : decode cX10_askLeaves 10 = .ok (.getfield 58, 3) := by decide +kernel
theorem dX10_askLeaves_13 : decode cX10_askLeaves 13 = .ok (.invokevirtual 288, 3) := by decide +kernel
theorem dX10_askLeaves_16 : decode cX10_askLeaves 16 = .ok (.aload_n 0, 1) := by decide +kernel
theorem dX10_askLeaves_17 : decode cX10_askLeaves 17 = .ok (.getfield 58, 3) := by decide +kernel
theorem dX10_askLeaves_20 : decode cX10_askLeaves 20 = .ok (.invokevirtual 298, 3) := by decide +kernel
theorem dX10_askLeaves_23 : decode cX10_askLeaves 23 = .ok (.istore_n 1, 1) := by decide +kernel
theorem dX10_askLeaves_24 : decode cX10_askLeaves 24 = .ok (.iload_n 1, 1) := by decide +kernel
theorem dX10_askLeaves_25 : decode cX10_askLeaves 25 = .ok (.ifCond .ge 8, 3) := by decide +kernel
theorem dX10_askLeaves_28 : decode cX10_askLeaves 28 = .ok (.bipush (-2), 2) := by decide +kernel
theorem dX10_askLeaves_30 : decode cX10_askLeaves 30 = .ok (.goto 11, 3) := by decide +kernel
theorem dX10_askLeaves_33 : decode cX10_askLeaves 33 = .ok (.aload_n 0, 1) := by decide +kernel
