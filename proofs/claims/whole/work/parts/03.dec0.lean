theorem dX0_init_0 : decode cX0_init 0 = .ok (.aload_n 0, 1) := by decide +kernel
theorem dX0_init_1 : decode cX0_init 1 = .ok (.invokespecial 3, 3) := by decide +kernel
theorem dX0_init_4 : decode cX0_init 4 = .ok (.aload_n 0, 1) := by decide +kernel
theorem dX0_init_5 : decode cX0_init 5 = .ok (.bipush 40, 2) := by decide +kernel
theorem dX0_init_7 : decode cX0_init 7 = .ok (.anewarray 9, 3) := by decide +kernel
theorem dX0_init_10 : decode cX0_init 10 = .ok (.putfield 11, 3) := by decide +kernel
theorem dX0_init_13 : decode cX0_init 13 = .ok (.iconst 0, 1) := by decide +kernel
theorem dX0_init_14 : decode cX0_init 14 = .ok (.istore_n 1, 1) := by decide +kernel
theorem dX0_init_15 : decode cX0_init 15 = .ok (.iload_n 1, 1) := by decide +kernel
theorem dX0_init_16 : decode cX0_init 16 = .ok (.bipush 40, 2) := by decide +kernel
theorem dX0_init_18 : decode cX0_init 18 = .ok (.if_icmp .ge 22, 3) := by decide +kernel
theorem dX0_init_21 : decode cX0_init 21 = .ok (.aload_n 0, 1) := by decide +kernel
theorem dX0_init_22 : decode cX0_init 22 = .ok (.getfield 11, 3) := by decide +kernel
theorem dX0_init_25 : decode cX0_init 25 = .ok (.iload_n 1, 1) := by decide +kernel
theorem dX0_init_26 : decode cX0_init 26 = .ok (.new 9, 3) := by decide +kernel
theorem dX0_init_29 : decode cX0_init 29 = .ok (.dup, 1) := by decide +kernel
theorem dX0_init_30 : decode cX0_init 30 = .ok (.invokespecial 17, 3) := by decide +kernel
theorem dX0_init_33 : decode cX0_init 33 = .ok (.aastore, 1) := by decide +kernel
theorem dX0_init_34 : decode cX0_init 34 = .ok (.iinc 1 1, 3) := by decide +kernel
theorem dX0_init_37 : decode cX0_init 37 = .ok (.goto (-22), 3) := by decide +kernel
theorem dX0_init_40 : decode cX0_init 40 = .ok (.return_, 1) := by decide +kernel
theorem dX0_clear_0 : decode cX0_clear 0 = .ok (.aload_n 0, 1) := by decide +kernel
theorem dX0_clear_1 : decode cX0_clear 1 = .ok (.iconst 0, 1) := by decide +kernel
theorem dX0_clear_2 : decode cX0_clear 2 = .ok (.putfield 18, 3) := by decide +kernel
theorem dX0_clear_5 : decode cX0_clear 5 = .ok (.return_, 1) := by decide +kernel
theorem dX0_keep_0 : decode cX0_keep 0 = .ok (.aload_n 0, 1) := by decide +kernel
theorem dX0_keep_1 : decode cX0_keep 1 = .ok (.getfield 18, 3) := by decide +kernel
theorem dX0_keep_4 : decode cX0_keep 4 = .ok (.bipush 40, 2) := by decide +kernel
theorem dX0_keep_6 : decode cX0_keep 6 = .ok (.if_icmp .ne 26, 3) := by decide +kernel
theorem dX0_keep_9 : decode cX0_keep 9 = .ok (.aload_n 0, 1) := by decide +kernel
theorem dX0_keep_10 : decode cX0_keep 10 = .ok (.aload_n 0, 1) := by decide +kernel
theorem dX0_keep_11 : decode cX0_keep 11 = .ok (.getfield 22, 3) := by decide +kernel
theorem dX0_keep_14 : decode cX0_keep 14 = .ok (.iconst 1, 1) := by decide +kernel
theorem dX0_keep_15 : decode cX0_keep 15 = .ok (.iadd, 1) := by decide +kernel
theorem dX0_keep_16 : decode cX0_keep 16 = .ok (.bipush 40, 2) := by decide +kernel
theorem dX0_keep_18 : decode cX0_keep 18 = .ok (.irem, 1) := by decide +kernel
theorem dX0_keep_19 : decode cX0_keep 19 = .ok (.putfield 22, 3) := by decide +kernel
theorem dX0_keep_22 : decode cX0_keep 22 = .ok (.aload_n 0, 1) := by decide +kernel
theorem dX0_keep_23 : decode cX0_keep 23 = .ok (.dup, 1) := by decide +kernel
theorem dX0_keep_24 : decode cX0_keep 24 = .ok (.getfield 18, 3) := by decide +kernel
theorem dX0_keep_27 : decode cX0_keep 27 = .ok (.iconst 1, 1) := by decide +kernel
theorem dX0_keep_28 : decode cX0_keep 28 = .ok (.isub, 1) := by decide +kernel
theorem dX0_keep_29 : decode cX0_keep 29 = .ok (.putfield 18, 3) := by decide +kernel
theorem dX0_keep_32 : decode cX0_keep 32 = .ok (.aload_n 0, 1) := by decide +kernel
theorem dX0_keep_33 : decode cX0_keep 33 = .ok (.getfield 11, 3) := by decide +kernel
theorem dX0_keep_36 : decode cX0_keep 36 = .ok (.aload_n 0, 1) := by decide +kernel
theorem dX0_keep_37 : decode cX0_keep 37 = .ok (.getfield 22, 3) := by decide +kernel
theorem dX0_keep_40 : decode cX0_keep 40 = .ok (.aload_n 0, 1) := by decide +kernel
theorem dX0_keep_41 : decode cX0_keep 41 = .ok (.getfield 18, 3) := by decide +kernel
theorem dX0_keep_44 : decode cX0_keep 44 = .ok (.iadd, 1) := by decide +kernel
theorem dX0_keep_45 : decode cX0_keep 45 = .ok (.bipush 40, 2) := by decide +kernel
theorem dX0_keep_47 : decode cX0_keep 47 = .ok (.irem, 1) := by decide +kernel
theorem dX0_keep_48 : decode cX0_keep 48 = .ok (.aaload, 1) := by decide +kernel
theorem dX0_keep_49 : decode cX0_keep 49 = .ok (.aload_n 1, 1) := by decide +kernel
theorem dX0_keep_50 : decode cX0_keep 50 = .ok (.invokevirtual 25, 3) := by decide +kernel
theorem dX0_keep_53 : decode cX0_keep 53 = .ok (.aload_n 0, 1) := by decide +kernel
theorem dX0_keep_54 : decode cX0_keep 54 = .ok (.dup, 1) := by decide +kernel
theorem dX0_keep_55 : decode cX0_keep 55 = .ok (.getfield 18, 3) := by decide +kernel
theorem dX0_keep_58 : decode cX0_keep 58 = .ok (.iconst 1, 1) := by decide +kernel
theorem dX0_keep_59 : decode cX0_keep 59 = .ok (.iadd, 1) := by decide +kernel
theorem dX0_keep_60 : decode cX0_keep 60 = .ok (.putfield 18, 3) := by decide +kernel
theorem dX0_keep_63 : decode cX0_keep 63 = .ok (.return_, 1) := by decide +kernel
theorem dX0_takeBack_0 : decode cX0_takeBack 0 = .ok (.aload_n 0, 1) := by decide +kernel
theorem dX0_takeBack_1 : decode cX0_takeBack 1 = .ok (.getfield 18, 3) := by decide +kernel
theorem dX0_takeBack_4 : decode cX0_takeBack 4 = .ok (.ifCond .le 34, 3) := by decide +kernel
theorem dX0_takeBack_7 : decode cX0_takeBack 7 = .ok (.aload_n 0, 1) := by decide +kernel
theorem dX0_takeBack_8 : decode cX0_takeBack 8 = .ok (.dup, 1) := by decide +kernel
theorem dX0_takeBack_9 : decode cX0_takeBack 9 = .ok (.getfield 18, 3) := by decide +kernel
theorem dX0_takeBack_12 : decode cX0_takeBack 12 = .ok (.iconst 1, 1) := by decide +kernel
theorem dX0_takeBack_13 : decode cX0_takeBack 13 = .ok (.isub, 1) := by decide +kernel
theorem dX0_takeBack_14 : decode cX0_takeBack 14 = .ok (.putfield 18, 3) := by decide +kernel
theorem dX0_takeBack_17 : decode cX0_takeBack 17 = .ok (.aload_n 1, 1) := by decide +kernel
theorem dX0_takeBack_18 : decode cX0_takeBack 18 = .ok (.aload_n 0, 1) := by decide +kernel
theorem dX0_takeBack_19 : decode cX0_takeBack 19 = .ok (.getfield 11, 3) := by decide +kernel
theorem dX0_takeBack_22 : decode cX0_takeBack 22 = .ok (.aload_n 0, 1) := by decide +kernel
theorem dX0_takeBack_23 : decode cX0_takeBack 23 = .ok (.getfield 22, 3) := by decide +kernel
theorem dX0_takeBack_26 : decode cX0_takeBack 26 = .ok (.aload_n 0, 1) := by decide +kernel
theorem dX0_takeBack_27 : decode cX0_takeBack 27 = .ok (.getfield 18, 3) := by decide +kernel
theorem dX0_takeBack_30 : decode cX0_takeBack 30 = .ok (.iadd, 1) := by decide +kernel
theorem dX0_takeBack_31 : decode cX0_takeBack 31 = .ok (.bipush 40, 2) := by decide +kernel
theorem dX0_takeBack_33 : decode cX0_takeBack 33 = .ok (.irem, 1) := by decide +kernel
theorem dX0_takeBack_34 : decode cX0_takeBack 34 = .ok (.aaload, 1) := by decide +kernel
theorem dX0_takeBack_35 : decode cX0_takeBack 35 = .ok (.invokevirtual 25, 3) := by decide +kernel
theorem dX0_takeBack_38 : decode cX0_takeBack 38 = .ok (.return_, 1) := by decide +kernel
theorem dX0_copyFrom_0 : decode cX0_copyFrom 0 = .ok (.aload_n 0, 1) := by decide +kernel
theorem dX0_copyFrom_1 : decode cX0_copyFrom 1 = .ok (.aload_n 1, 1) := by decide +kernel
theorem dX0_copyFrom_2 : decode cX0_copyFrom 2 = .ok (.getfield 22, 3) := by decide +kernel
theorem dX0_copyFrom_5 : decode cX0_copyFrom 5 = .ok (.putfield 22, 3) := by decide +kernel
theorem dX0_copyFrom_8 : decode cX0_copyFrom 8 = .ok (.aload_n 0, 1) := by decide +kernel
theorem dX0_copyFrom_9 : decode cX0_copyFrom 9 = .ok (.aload_n 1, 1) := by decide +kernel
theorem dX0_copyFrom_10 : decode cX0_copyFrom 10 = .ok (.getfield 18, 3) := by decide +kernel
theorem dX0_copyFrom_13 : decode cX0_copyFrom 13 = .ok (.putfield 18, 3) := by decide +kernel
theorem dX0_copyFrom_16 : decode cX0_copyFrom 16 = .ok (.iconst 0, 1) := by decide +kernel
theorem dX0_copyFrom_17 : decode cX0_copyFrom 17 = .ok (.istore_n 2, 1) := by decide +kernel
theorem dX0_copyFrom_18 : decode cX0_copyFrom 18 = .ok (.iload_n 2, 1) := by decide +kernel
theorem dX0_copyFrom_19 : decode cX0_copyFrom 19 = .ok (.bipush 40, 2) := by decide +kernel
theorem dX0_copyFrom_21 : decode cX0_copyFrom 21 = .ok (.if_icmp .ge 24, 3) := by decide +kernel
theorem dX0_copyFrom_24 : decode cX0_copyFrom 24 = .ok (.aload_n 0, 1) := by decide +kernel
theorem dX0_copyFrom_25 : decode cX0_copyFrom 25 = .ok (.getfield 11, 3) := by decide +kernel
theorem dX0_copyFrom_28 : decode cX0_copyFrom 28 = .ok (.iload_n 2, 1) := by decide +kernel
theorem dX0_copyFrom_29 : decode cX0_copyFrom 29 = .ok (.aaload, 1) := by decide +kernel
theorem dX0_copyFrom_30 : decode cX0_copyFrom 30 = .ok (.aload_n 1, 1) := by decide +kernel
theorem dX0_copyFrom_31 : decode cX0_copyFrom 31 = .ok (.getfield 11, 3) := by decide +kernel
theorem dX0_copyFrom_34 : decode cX0_copyFrom 34 = .ok (.iload_n 2, 1) := by decide +kernel
theorem dX0_copyFrom_35 : decode cX0_copyFrom 35 = .ok (.aaload, 1) := by decide +kernel
theorem dX0_copyFrom_36 : decode cX0_copyFrom 36 = .ok (.invokevirtual 25, 3) := by decide +kernel
theorem dX0_copyFrom_39 : decode cX0_copyFrom 39 = .ok (.iinc 2 1, 3) := by decide +kernel
theorem dX0_copyFrom_42 : decode cX0_copyFrom 42 = .ok (.goto (-24), 3) := by decide +kernel
theorem dX0_copyFrom_45 : decode cX0_copyFrom 45 = .ok (.return_, 1) := by decide +kernel
theorem dX1_init_0 : decode cX1_init 0 = .ok (.aload_n 0, 1) := by decide +kernel
theorem dX1_init_1 : decode cX1_init 1 = .ok (.invokespecial 3, 3) := by decide +kernel
theorem dX1_init_4 : decode cX1_init 4 = .ok (.aload_n 0, 1) := by decide +kernel
theorem dX1_init_5 : decode cX1_init 5 = .ok (.ldc 9, 2) := by decide +kernel
theorem dX1_init_7 : decode cX1_init 7 = .ok (.putfield 10, 3) := by decide +kernel
theorem dX1_init_10 : decode cX1_init 10 = .ok (.aload_n 0, 1) := by decide +kernel
theorem dX1_init_11 : decode cX1_init 11 = .ok (.aload_n 1, 1) := by decide +kernel
theorem dX1_init_12 : decode cX1_init 12 = .ok (.putfield 16, 3) := by decide +kernel
theorem dX1_init_15 : decode cX1_init 15 = .ok (.aload_n 0, 1) := by decide +kernel
theorem dX1_init_16 : decode cX1_init 16 = .ok (.aload_n 2, 1) := by decide +kernel
theorem dX1_init_17 : decode cX1_init 17 = .ok (.putfield 20, 3) := by decide +kernel
theorem dX1_init_20 : decode cX1_init 20 = .ok (.aload_n 0, 1) := by decide +kernel
theorem dX1_init_21 : decode cX1_init 21 = .ok (.iload_n 3, 1) := by decide +kernel
theorem dX1_init_22 : decode cX1_init 22 = .ok (.putfield 24, 3) := by decide +kernel
theorem dX1_init_25 : decode cX1_init 25 = .ok (.aload_n 0, 1) := by decide +kernel
theorem dX1_init_26 : decode cX1_init 26 = .ok (.iload 4, 2) := by decide +kernel
theorem dX1_init_28 : decode cX1_init 28 = .ok (.putfield 27, 3) := by decide +kernel
theorem dX1_init_31 : decode cX1_init 31 = .ok (.aload_n 0, 1) := by decide +kernel
theorem dX1_init_32 : decode cX1_init 32 = .ok (.iload 5, 2) := by decide +kernel
theorem dX1_init_34 : decode cX1_init 34 = .ok (.putfield 30, 3) := by decide +kernel
theorem dX1_init_37 : decode cX1_init 37 = .ok (.return_, 1) := by decide +kernel
theorem dX1_leastSum_0 : decode cX1_leastSum 0 = .ok (.aload_n 0, 1) := by decide +kernel
theorem dX1_leastSum_1 : decode cX1_leastSum 1 = .ok (.iload_n 1, 1) := by decide +kernel
theorem dX1_leastSum_2 : decode cX1_leastSum 2 = .ok (.iload_n 1, 1) := by decide +kernel
theorem dX1_leastSum_3 : decode cX1_leastSum 3 = .ok (.iconst 1, 1) := by decide +kernel
theorem dX1_leastSum_4 : decode cX1_leastSum 4 = .ok (.iload_n 1, 1) := by decide +kernel
theorem dX1_leastSum_5 : decode cX1_leastSum 5 = .ok (.ishl, 1) := by decide +kernel
theorem dX1_leastSum_6 : decode cX1_leastSum 6 = .ok (.iconst 0, 1) := by decide +kernel
theorem dX1_leastSum_7 : decode cX1_leastSum 7 = .ok (.iconst 0, 1) := by decide +kernel
theorem dX1_leastSum_8 : decode cX1_leastSum 8 = .ok (.invokevirtual 33, 3) := by decide +kernel
theorem dX1_leastSum_11 : decode cX1_leastSum 11 = .ok (.aload_n 0, 1) := by decide +kernel
theorem dX1_leastSum_12 : decode cX1_leastSum 12 = .ok (.getfield 10, 3) := by decide +kernel
theorem dX1_leastSum_15 : decode cX1_leastSum 15 = .ok (.ldc 9, 2) := by decide +kernel
theorem dX1_leastSum_17 : decode cX1_leastSum 17 = .ok (.if_icmp .ge 10, 3) := by decide +kernel
theorem dX1_leastSum_20 : decode cX1_leastSum 20 = .ok (.aload_n 0, 1) := by decide +kernel
theorem dX1_leastSum_21 : decode cX1_leastSum 21 = .ok (.getfield 10, 3) := by decide +kernel
theorem dX1_leastSum_24 : decode cX1_leastSum 24 = .ok (.goto 4, 3) := by decide +kernel
theorem dX1_leastSum_27 : decode cX1_leastSum 27 = .ok (.iconst (-1), 1) := by decide +kernel
theorem dX1_leastSum_28 : decode cX1_leastSum 28 = .ok (.ireturn, 1) := by decide +kernel
theorem dX1_tryFirst_0 : decode cX1_tryFirst 0 = .ok (.iconst 2, 1) := by decide +kernel
theorem dX1_tryFirst_1 : decode cX1_tryFirst 1 = .ok (.iload 5, 2) := by decide +kernel
theorem dX1_tryFirst_3 : decode cX1_tryFirst 3 = .ok (.imul, 1) := by decide +kernel
theorem dX1_tryFirst_4 : decode cX1_tryFirst 4 = .ok (.aload_n 0, 1) := by decide +kernel
theorem dX1_tryFirst_5 : decode cX1_tryFirst 5 = .ok (.getfield 10, 3) := by decide +kernel
theorem dX1_tryFirst_8 : decode cX1_tryFirst 8 = .ok (.if_icmp .lt 4, 3) := by decide +kernel
theorem dX1_tryFirst_11 : decode cX1_tryFirst 11 = .ok (.return_, 1) := by decide +kernel
theorem dX1_tryFirst_12 : decode cX1_tryFirst 12 = .ok (.iload_n 2, 1) := by decide +kernel
theorem dX1_tryFirst_13 : decode cX1_tryFirst 13 = .ok (.aload_n 0, 1) := by decide +kernel
theorem dX1_tryFirst_14 : decode cX1_tryFirst 14 = .ok (.getfield 27, 3) := by decide +kernel
theorem dX1_tryFirst_17 : decode cX1_tryFirst 17 = .ok (.if_icmp .ne 43, 3) := by decide +kernel
theorem dX1_tryFirst_20 : decode cX1_tryFirst 20 = .ok (.aload_n 0, 1) := by decide +kernel
theorem dX1_tryFirst_21 : decode cX1_tryFirst 21 = .ok (.aload_n 0, 1) := by decide +kernel
theorem dX1_tryFirst_22 : decode cX1_tryFirst 22 = .ok (.getfield 10, 3) := by decide +kernel
theorem dX1_tryFirst_25 : decode cX1_tryFirst 25 = .ok (.iload 5, 2) := by decide +kernel
theorem dX1_tryFirst_27 : decode cX1_tryFirst 27 = .ok (.aload_n 0, 1) := by decide +kernel
theorem dX1_tryFirst_28 : decode cX1_tryFirst 28 = .ok (.getfield 20, 3) := by decide +kernel
theorem dX1_tryFirst_31 : decode cX1_tryFirst 31 = .ok (.aload_n 0, 1) := by decide +kernel
theorem dX1_tryFirst_32 : decode cX1_tryFirst 32 = .ok (.getfield 24, 3) := by decide +kernel
theorem dX1_tryFirst_35 : decode cX1_tryFirst 35 = .ok (.iload 4, 2) := by decide +kernel
theorem dX1_tryFirst_37 : decode cX1_tryFirst 37 = .ok (.iconst (-1), 1) := by decide +kernel
theorem dX1_tryFirst_38 : decode cX1_tryFirst 38 = .ok (.ixor, 1) := by decide +kernel
theorem dX1_tryFirst_39 : decode cX1_tryFirst 39 = .ok (.iand, 1) := by decide +kernel
theorem dX1_tryFirst_40 : decode cX1_tryFirst 40 = .ok (.iload_n 1, 1) := by decide +kernel
theorem dX1_tryFirst_41 : decode cX1_tryFirst 41 = .ok (.aload_n 0, 1) := by decide +kernel
theorem dX1_tryFirst_42 : decode cX1_tryFirst 42 = .ok (.getfield 27, 3) := by decide +kernel
theorem dX1_tryFirst_45 : decode cX1_tryFirst 45 = .ok (.aload_n 0, 1) := by decide +kernel
theorem dX1_tryFirst_46 : decode cX1_tryFirst 46 = .ok (.getfield 30, 3) := by decide +kernel
theorem dX1_tryFirst_49 : decode cX1_tryFirst 49 = .ok (.invokevirtual 37, 3) := by decide +kernel
theorem dX1_tryFirst_52 : decode cX1_tryFirst 52 = .ok (.iadd, 1) := by decide +kernel
theorem dX1_tryFirst_53 : decode cX1_tryFirst 53 = .ok (.invokestatic 43, 3) := by decide +kernel
theorem dX1_tryFirst_56 : decode cX1_tryFirst 56 = .ok (.putfield 10, 3) := by decide +kernel
theorem dX1_tryFirst_59 : decode cX1_tryFirst 59 = .ok (.return_, 1) := by decide +kernel
theorem dX1_tryFirst_60 : decode cX1_tryFirst 60 = .ok (.iload 4, 2) := by decide +kernel
theorem dX1_tryFirst_62 : decode cX1_tryFirst 62 = .ok (.invokestatic 49, 3) := by decide +kernel
theorem dX1_tryFirst_65 : decode cX1_tryFirst 65 = .ok (.aload_n 0, 1) := by decide +kernel
theorem dX1_tryFirst_66 : decode cX1_tryFirst 66 = .ok (.getfield 30, 3) := by decide +kernel
theorem dX1_tryFirst_69 : decode cX1_tryFirst 69 = .ok (.if_icmp .lt 4, 3) := by decide +kernel
theorem dX1_tryFirst_72 : decode cX1_tryFirst 72 = .ok (.return_, 1) := by decide +kernel
theorem dX1_tryFirst_73 : decode cX1_tryFirst 73 = .ok (.iconst 0, 1) := by decide +kernel
theorem dX1_tryFirst_74 : decode cX1_tryFirst 74 = .ok (.istore 6, 2) := by decide +kernel
theorem dX1_tryFirst_76 : decode cX1_tryFirst 76 = .ok (.iload 6, 2) := by decide +kernel
theorem dX1_tryFirst_78 : decode cX1_tryFirst 78 = .ok (.aload_n 0, 1) := by decide +kernel
theorem dX1_tryFirst_79 : decode cX1_tryFirst 79 = .ok (.getfield 16, 3) := by decide +kernel
theorem dX1_tryFirst_82 : decode cX1_tryFirst 82 = .ok (.getfield 55, 3) := by decide +kernel
theorem dX1_tryFirst_85 : decode cX1_tryFirst 85 = .ok (.if_icmp .ge 101, 3) := by decide +kernel
theorem dX1_tryFirst_88 : decode cX1_tryFirst 88 = .ok (.aload_n 0, 1) := by decide +kernel
theorem dX1_tryFirst_89 : decode cX1_tryFirst 89 = .ok (.getfield 16, 3) := by decide +kernel
theorem dX1_tryFirst_92 : decode cX1_tryFirst 92 = .ok (.getfield 58, 3) := by decide +kernel
theorem dX1_tryFirst_95 : decode cX1_tryFirst 95 = .ok (.iload 6, 2) := by decide +kernel
theorem dX1_tryFirst_97 : decode cX1_tryFirst 97 = .ok (.iaload, 1) := by decide +kernel
theorem dX1_tryFirst_98 : decode cX1_tryFirst 98 = .ok (.istore 7, 2) := by decide +kernel
theorem dX1_tryFirst_100 : decode cX1_tryFirst 100 = .ok (.aload_n 0, 1) := by decide +kernel
theorem dX1_tryFirst_101 : decode cX1_tryFirst 101 = .ok (.getfield 24, 3) := by decide +kernel
theorem dX1_tryFirst_104 : decode cX1_tryFirst 104 = .ok (.iload 6, 2) := by decide +kernel
theorem dX1_tryFirst_106 : decode cX1_tryFirst 106 = .ok (.iushr, 1) := by decide +kernel
theorem dX1_tryFirst_107 : decode cX1_tryFirst 107 = .ok (.iconst 1, 1) := by decide +kernel
theorem dX1_tryFirst_108 : decode cX1_tryFirst 108 = .ok (.iand, 1) := by decide +kernel
theorem dX1_tryFirst_109 : decode cX1_tryFirst 109 = .ok (.ifCond .eq 21, 3) := by decide +kernel
theorem dX1_tryFirst_112 : decode cX1_tryFirst 112 = .ok (.aload_n 0, 1) := by decide +kernel
theorem dX1_tryFirst_113 : decode cX1_tryFirst 113 = .ok (.getfield 16, 3) := by decide +kernel
theorem dX1_tryFirst_116 : decode cX1_tryFirst 116 = .ok (.getfield 61, 3) := by decide +kernel
theorem dX1_tryFirst_119 : decode cX1_tryFirst 119 = .ok (.iload 6, 2) := by decide +kernel
theorem dX1_tryFirst_121 : decode cX1_tryFirst 121 = .ok (.iaload, 1) := by decide +kernel
theorem dX1_tryFirst_122 : decode cX1_tryFirst 122 = .ok (.iload_n 2, 1) := by decide +kernel
theorem dX1_tryFirst_123 : decode cX1_tryFirst 123 = .ok (.if_icmp .ne 7, 3) := by decide +kernel
theorem dX1_tryFirst_126 : decode cX1_tryFirst 126 = .ok (.iconst 1, 1) := by decide +kernel
theorem dX1_tryFirst_127 : decode cX1_tryFirst 127 = .ok (.goto 4, 3) := by decide +kernel
theorem dX1_tryFirst_130 : decode cX1_tryFirst 130 = .ok (.iconst 0, 1) := by decide +kernel
theorem dX1_tryFirst_131 : decode cX1_tryFirst 131 = .ok (.istore 8, 2) := by decide +kernel
theorem dX1_tryFirst_133 : decode cX1_tryFirst 133 = .ok (.iload 8, 2) := by decide +kernel
theorem dX1_tryFirst_135 : decode cX1_tryFirst 135 = .ok (.ifCond .eq 45, 3) := by decide +kernel
theorem dX1_tryFirst_138 : decode cX1_tryFirst 138 = .ok (.iload_n 3, 1) := by decide +kernel
theorem dX1_tryFirst_139 : decode cX1_tryFirst 139 = .ok (.iload 7, 2) := by decide +kernel
theorem dX1_tryFirst_141 : decode cX1_tryFirst 141 = .ok (.iushr, 1) := by decide +kernel
theorem dX1_tryFirst_142 : decode cX1_tryFirst 142 = .ok (.iconst 1, 1) := by decide +kernel
theorem dX1_tryFirst_143 : decode cX1_tryFirst 143 = .ok (.iand, 1) := by decide +kernel
theorem dX1_tryFirst_144 : decode cX1_tryFirst 144 = .ok (.ifCond .ne 36, 3) := by decide +kernel
theorem dX1_tryFirst_147 : decode cX1_tryFirst 147 = .ok (.aload_n 0, 1) := by decide +kernel
theorem dX1_tryFirst_148 : decode cX1_tryFirst 148 = .ok (.iload_n 1, 1) := by decide +kernel
theorem dX1_tryFirst_149 : decode cX1_tryFirst 149 = .ok (.iload 7, 2) := by decide +kernel
theorem dX1_tryFirst_151 : decode cX1_tryFirst 151 = .ok (.iload_n 3, 1) := by decide +kernel
theorem dX1_tryFirst_152 : decode cX1_tryFirst 152 = .ok (.iconst 1, 1) := by decide +kernel
theorem dX1_tryFirst_153 : decode cX1_tryFirst 153 = .ok (.iload 7, 2) := by decide +kernel
theorem dX1_tryFirst_155 : decode cX1_tryFirst 155 = .ok (.ishl, 1) := by decide +kernel
theorem dX1_tryFirst_156 : decode cX1_tryFirst 156 = .ok (.ior, 1) := by decide +kernel
theorem dX1_tryFirst_157 : decode cX1_tryFirst 157 = .ok (.iload 4, 2) := by decide +kernel
theorem dX1_tryFirst_159 : decode cX1_tryFirst 159 = .ok (.iconst 1, 1) := by decide +kernel
theorem dX1_tryFirst_160 : decode cX1_tryFirst 160 = .ok (.iload 6, 2) := by decide +kernel
theorem dX1_tryFirst_162 : decode cX1_tryFirst 162 = .ok (.ishl, 1) := by decide +kernel
theorem dX1_tryFirst_163 : decode cX1_tryFirst 163 = .ok (.ior, 1) := by decide +kernel
theorem dX1_tryFirst_164 : decode cX1_tryFirst 164 = .ok (.iload 5, 2) := by decide +kernel
theorem dX1_tryFirst_166 : decode cX1_tryFirst 166 = .ok (.aload_n 0, 1) := by decide +kernel
theorem dX1_tryFirst_167 : decode cX1_tryFirst 167 = .ok (.getfield 16, 3) := by decide +kernel
theorem dX1_tryFirst_170 : decode cX1_tryFirst 170 = .ok (.getfield 64, 3) := by decide +kernel
theorem dX1_tryFirst_173 : decode cX1_tryFirst 173 = .ok (.iload 6, 2) := by decide +kernel
theorem dX1_tryFirst_175 : decode cX1_tryFirst 175 = .ok (.iaload, 1) := by decide +kernel
theorem dX1_tryFirst_176 : decode cX1_tryFirst 176 = .ok (.iadd, 1) := by decide +kernel
theorem dX1_tryFirst_177 : decode cX1_tryFirst 177 = .ok (.invokevirtual 33, 3) := by decide +kernel
theorem dX1_tryFirst_180 : decode cX1_tryFirst 180 = .ok (.iinc 6 1, 3) := by decide +kernel
theorem dX1_tryFirst_183 : decode cX1_tryFirst 183 = .ok (.goto (-107), 3) := by decide +kernel
theorem dX1_tryFirst_186 : decode cX1_tryFirst 186 = .ok (.return_, 1) := by decide +kernel
theorem dX2_init_0 : decode cX2_init 0 = .ok (.aload_n 0, 1) := by decide +kernel
theorem dX2_init_1 : decode cX2_init 1 = .ok (.invokespecial 3, 3) := by decide +kernel
theorem dX2_init_4 : decode cX2_init 4 = .ok (.aload_n 0, 1) := by decide +kernel
theorem dX2_init_5 : decode cX2_init 5 = .ok (.aload_n 1, 1) := by decide +kernel
theorem dX2_init_6 : decode cX2_init 6 = .ok (.putfield 9, 3) := by decide +kernel
theorem dX2_init_9 : decode cX2_init 9 = .ok (.aload_n 0, 1) := by decide +kernel
theorem dX2_init_10 : decode cX2_init 10 = .ok (.aload_n 2, 1) := by decide +kernel
theorem dX2_init_11 : decode cX2_init 11 = .ok (.putfield 15, 3) := by decide +kernel
theorem dX2_init_14 : decode cX2_init 14 = .ok (.aload_n 0, 1) := by decide +kernel
theorem dX2_init_15 : decode cX2_init 15 = .ok (.aload_n 3, 1) := by decide +kernel
theorem dX2_init_16 : decode cX2_init 16 = .ok (.putfield 19, 3) := by decide +kernel
theorem dX2_init_19 : decode cX2_init 19 = .ok (.return_, 1) := by decide +kernel
theorem dX2_standing_0 : decode cX2_standing 0 = .ok (.iconst 0, 1) := by decide +kernel
theorem dX2_standing_1 : decode cX2_standing 1 = .ok (.istore_n 1, 1) := by decide +kernel
theorem dX2_standing_2 : decode cX2_standing 2 = .ok (.iconst 0, 1) := by decide +kernel
theorem dX2_standing_3 : decode cX2_standing 3 = .ok (.istore_n 2, 1) := by decide +kernel
theorem dX2_standing_4 : decode cX2_standing 4 = .ok (.iload_n 2, 1) := by decide +kernel
theorem dX2_standing_5 : decode cX2_standing 5 = .ok (.aload_n 0, 1) := by decide +kernel
theorem dX2_standing_6 : decode cX2_standing 6 = .ok (.getfield 9, 3) := by decide +kernel
theorem dX2_standing_9 : decode cX2_standing 9 = .ok (.getfield 23, 3) := by decide +kernel
theorem dX2_standing_12 : decode cX2_standing 12 = .ok (.if_icmp .ge 27, 3) := by decide +kernel
theorem dX2_standing_15 : decode cX2_standing 15 = .ok (.aload_n 0, 1) := by decide +kernel
theorem dX2_standing_16 : decode cX2_standing 16 = .ok (.getfield 19, 3) := by decide +kernel
theorem dX2_standing_19 : decode cX2_standing 19 = .ok (.getfield 29, 3) := by decide +kernel
theorem dX2_standing_22 : decode cX2_standing 22 = .ok (.iload_n 2, 1) := by decide +kernel
theorem dX2_standing_23 : decode cX2_standing 23 = .ok (.iaload, 1) := by decide +kernel
theorem dX2_standing_24 : decode cX2_standing 24 = .ok (.ifCond .eq 9, 3) := by decide +kernel
theorem dX2_standing_27 : decode cX2_standing 27 = .ok (.iload_n 1, 1) := by decide +kernel
theorem dX2_standing_28 : decode cX2_standing 28 = .ok (.iconst 1, 1) := by decide +kernel
theorem dX2_standing_29 : decode cX2_standing 29 = .ok (.iload_n 2, 1) := by decide +kernel
theorem dX2_standing_30 : decode cX2_standing 30 = .ok (.ishl, 1) := by decide +kernel
theorem dX2_standing_31 : decode cX2_standing 31 = .ok (.ior, 1) := by decide +kernel
theorem dX2_standing_32 : decode cX2_standing 32 = .ok (.istore_n 1, 1) := by decide +kernel
theorem dX2_standing_33 : decode cX2_standing 33 = .ok (.iinc 2 1, 3) := by decide +kernel
theorem dX2_standing_36 : decode cX2_standing 36 = .ok (.goto (-32), 3) := by decide +kernel
theorem dX2_standing_39 : decode cX2_standing 39 = .ok (.iload_n 1, 1) := by decide +kernel
theorem dX2_standing_40 : decode cX2_standing 40 = .ok (.ireturn, 1) := by decide +kernel
theorem dX2_tunnelsOn_0 : decode cX2_tunnelsOn 0 = .ok (.iconst 0, 1) := by decide +kernel
theorem dX2_tunnelsOn_1 : decode cX2_tunnelsOn 1 = .ok (.istore_n 2, 1) := by decide +kernel
theorem dX2_tunnelsOn_2 : decode cX2_tunnelsOn 2 = .ok (.iconst 0, 1) := by decide +kernel
theorem dX2_tunnelsOn_3 : decode cX2_tunnelsOn 3 = .ok (.istore_n 3, 1) := by decide +kernel
theorem dX2_tunnelsOn_4 : decode cX2_tunnelsOn 4 = .ok (.iload_n 3, 1) := by decide +kernel
theorem dX2_tunnelsOn_5 : decode cX2_tunnelsOn 5 = .ok (.aload_n 0, 1) := by decide +kernel
theorem dX2_tunnelsOn_6 : decode cX2_tunnelsOn 6 = .ok (.getfield 9, 3) := by decide +kernel
theorem dX2_tunnelsOn_9 : decode cX2_tunnelsOn 9 = .ok (.getfield 23, 3) := by decide +kernel
theorem dX2_tunnelsOn_12 : decode cX2_tunnelsOn 12 = .ok (.if_icmp .ge 27, 3) := by decide +kernel
theorem dX2_tunnelsOn_15 : decode cX2_tunnelsOn 15 = .ok (.iload_n 2, 1) := by decide +kernel
theorem dX2_tunnelsOn_16 : decode cX2_tunnelsOn 16 = .ok (.aload_n 0, 1) := by decide +kernel
theorem dX2_tunnelsOn_17 : decode cX2_tunnelsOn 17 = .ok (.getfield 19, 3) := by decide +kernel
theorem dX2_tunnelsOn_20 : decode cX2_tunnelsOn 20 = .ok (.getfield 29, 3) := by decide +kernel
theorem dX2_tunnelsOn_23 : decode cX2_tunnelsOn 23 = .ok (.iload_n 3, 1) := by decide +kernel
theorem dX2_tunnelsOn_24 : decode cX2_tunnelsOn 24 = .ok (.iaload, 1) := by decide +kernel
theorem dX2_tunnelsOn_25 : decode cX2_tunnelsOn 25 = .ok (.iload_n 1, 1) := by decide +kernel
theorem dX2_tunnelsOn_26 : decode cX2_tunnelsOn 26 = .ok (.iushr, 1) := by decide +kernel
theorem dX2_tunnelsOn_27 : decode cX2_tunnelsOn 27 = .ok (.iconst 1, 1) := by decide +kernel
theorem dX2_tunnelsOn_28 : decode cX2_tunnelsOn 28 = .ok (.iand, 1) := by decide +kernel
theorem dX2_tunnelsOn_29 : decode cX2_tunnelsOn 29 = .ok (.iload_n 3, 1) := by decide +kernel
theorem dX2_tunnelsOn_30 : decode cX2_tunnelsOn 30 = .ok (.ishl, 1) := by decide +kernel
theorem dX2_tunnelsOn_31 : decode cX2_tunnelsOn 31 = .ok (.ior, 1) := by decide +kernel
theorem dX2_tunnelsOn_32 : decode cX2_tunnelsOn 32 = .ok (.istore_n 2, 1) := by decide +kernel
theorem dX2_tunnelsOn_33 : decode cX2_tunnelsOn 33 = .ok (.iinc 3 1, 3) := by decide +kernel
theorem dX2_tunnelsOn_36 : decode cX2_tunnelsOn 36 = .ok (.goto (-32), 3) := by decide +kernel
theorem dX2_tunnelsOn_39 : decode cX2_tunnelsOn 39 = .ok (.iload_n 2, 1) := by decide +kernel
theorem dX2_tunnelsOn_40 : decode cX2_tunnelsOn 40 = .ok (.ireturn, 1) := by decide +kernel
theorem dX2_taken_0 : decode cX2_taken 0 = .ok (.aload_n 0, 1) := by decide +kernel
theorem dX2_taken_1 : decode cX2_taken 1 = .ok (.getfield 9, 3) := by decide +kernel
theorem dX2_taken_4 : decode cX2_taken 4 = .ok (.getfield 35, 3) := by decide +kernel
theorem dX2_taken_7 : decode cX2_taken 7 = .ok (.iload_n 1, 1) := by decide +kernel
theorem dX2_taken_8 : decode cX2_taken 8 = .ok (.iaload, 1) := by decide +kernel
theorem dX2_taken_9 : decode cX2_taken 9 = .ok (.aload_n 0, 1) := by decide +kernel
theorem dX2_taken_10 : decode cX2_taken 10 = .ok (.iconst (-1), 1) := by decide +kernel
theorem dX2_taken_11 : decode cX2_taken 11 = .ok (.iload_n 1, 1) := by decide +kernel
theorem dX2_taken_12 : decode cX2_taken 12 = .ok (.bipush 7, 2) := by decide +kernel
theorem dX2_taken_14 : decode cX2_taken 14 = .ok (.invokevirtual 38, 3) := by decide +kernel
theorem dX2_taken_17 : decode cX2_taken 17 = .ok (.isub, 1) := by decide +kernel
theorem dX2_taken_18 : decode cX2_taken 18 = .ok (.ireturn, 1) := by decide +kernel
theorem dX2_poolWithout_0 : decode cX2_poolWithout 0 = .ok (.aload_n 0, 1) := by decide +kernel
theorem dX2_poolWithout_1 : decode cX2_poolWithout 1 = .ok (.getfield 9, 3) := by decide +kernel
theorem dX2_poolWithout_4 : decode cX2_poolWithout 4 = .ok (.getfield 35, 3) := by decide +kernel
theorem dX2_poolWithout_7 : decode cX2_poolWithout 7 = .ok (.iload_n 2, 1) := by decide +kernel
theorem dX2_poolWithout_8 : decode cX2_poolWithout 8 = .ok (.iaload, 1) := by decide +kernel
theorem dX2_poolWithout_9 : decode cX2_poolWithout 9 = .ok (.istore 4, 2) := by decide +kernel
theorem dX2_poolWithout_11 : decode cX2_poolWithout 11 = .ok (.iconst 0, 1) := by decide +kernel
theorem dX2_poolWithout_12 : decode cX2_poolWithout 12 = .ok (.istore 5, 2) := by decide +kernel
theorem dX2_poolWithout_14 : decode cX2_poolWithout 14 = .ok (.iload 5, 2) := by decide +kernel
theorem dX2_poolWithout_16 : decode cX2_poolWithout 16 = .ok (.aload_n 0, 1) := by decide +kernel
theorem dX2_poolWithout_17 : decode cX2_poolWithout 17 = .ok (.getfield 9, 3) := by decide +kernel
theorem dX2_poolWithout_20 : decode cX2_poolWithout 20 = .ok (.getfield 23, 3) := by decide +kernel
theorem dX2_poolWithout_23 : decode cX2_poolWithout 23 = .ok (.if_icmp .ge 61, 3) := by decide +kernel
theorem dX2_poolWithout_26 : decode cX2_poolWithout 26 = .ok (.iload 5, 2) := by decide +kernel
theorem dX2_poolWithout_28 : decode cX2_poolWithout 28 = .ok (.iload_n 1, 1) := by decide +kernel
theorem dX2_poolWithout_29 : decode cX2_poolWithout 29 = .ok (.if_icmp .eq 49, 3) := by decide +kernel
theorem dX2_poolWithout_32 : decode cX2_poolWithout 32 = .ok (.aload_n 0, 1) := by decide +kernel
theorem dX2_poolWithout_33 : decode cX2_poolWithout 33 = .ok (.getfield 9, 3) := by decide +kernel
theorem dX2_poolWithout_36 : decode cX2_poolWithout 36 = .ok (.getfield 42, 3) := by decide +kernel
theorem dX2_poolWithout_39 : decode cX2_poolWithout 39 = .ok (.iload 5, 2) := by decide +kernel
theorem dX2_poolWithout_41 : decode cX2_poolWithout 41 = .ok (.iaload, 1) := by decide +kernel
theorem dX2_poolWithout_42 : decode cX2_poolWithout 42 = .ok (.iload_n 3, 1) := by decide +kernel
theorem dX2_poolWithout_43 : decode cX2_poolWithout 43 = .ok (.if_icmp .gt 35, 3) := by decide +kernel
theorem dX2_poolWithout_46 : decode cX2_poolWithout 46 = .ok (.aload_n 0, 1) := by decide +kernel
theorem dX2_poolWithout_47 : decode cX2_poolWithout 47 = .ok (.getfield 19, 3) := by decide +kernel
theorem dX2_poolWithout_50 : decode cX2_poolWithout 50 = .ok (.getfield 29, 3) := by decide +kernel
theorem dX2_poolWithout_53 : decode cX2_poolWithout 53 = .ok (.iload 5, 2) := by decide +kernel
theorem dX2_poolWithout_55 : decode cX2_poolWithout 55 = .ok (.iaload, 1) := by decide +kernel
theorem dX2_poolWithout_56 : decode cX2_poolWithout 56 = .ok (.iload_n 2, 1) := by decide +kernel
theorem dX2_poolWithout_57 : decode cX2_poolWithout 57 = .ok (.iushr, 1) := by decide +kernel
theorem dX2_poolWithout_58 : decode cX2_poolWithout 58 = .ok (.iconst 1, 1) := by decide +kernel
theorem dX2_poolWithout_59 : decode cX2_poolWithout 59 = .ok (.iand, 1) := by decide +kernel
theorem dX2_poolWithout_60 : decode cX2_poolWithout 60 = .ok (.ifCond .eq 18, 3) := by decide +kernel
theorem dX2_poolWithout_63 : decode cX2_poolWithout 63 = .ok (.iload 4, 2) := by decide +kernel
theorem dX2_poolWithout_65 : decode cX2_poolWithout 65 = .ok (.aload_n 0, 1) := by decide +kernel
theorem dX2_poolWithout_66 : decode cX2_poolWithout 66 = .ok (.getfield 19, 3) := by decide +kernel
theorem dX2_poolWithout_69 : decode cX2_poolWithout 69 = .ok (.getfield 45, 3) := by decide +kernel
theorem dX2_poolWithout_72 : decode cX2_poolWithout 72 = .ok (.iload 5, 2) := by decide +kernel
theorem dX2_poolWithout_74 : decode cX2_poolWithout 74 = .ok (.iaload, 1) := by decide +kernel
theorem dX2_poolWithout_75 : decode cX2_poolWithout 75 = .ok (.isub, 1) := by decide +kernel
theorem dX2_poolWithout_76 : decode cX2_poolWithout 76 = .ok (.istore 4, 2) := by decide +kernel
theorem dX2_poolWithout_78 : decode cX2_poolWithout 78 = .ok (.iinc 5 1, 3) := by decide +kernel
theorem dX2_poolWithout_81 : decode cX2_poolWithout 81 = .ok (.goto (-67), 3) := by decide +kernel
theorem dX2_poolWithout_84 : decode cX2_poolWithout 84 = .ok (.iload 4, 2) := by decide +kernel
theorem dX2_poolWithout_86 : decode cX2_poolWithout 86 = .ok (.ireturn, 1) := by decide +kernel
theorem dX2_showPools_0 : decode cX2_showPools 0 = .ok (.iconst 0, 1) := by decide +kernel
theorem dX2_showPools_1 : decode cX2_showPools 1 = .ok (.istore_n 3, 1) := by decide +kernel
theorem dX2_showPools_2 : decode cX2_showPools 2 = .ok (.iload_n 3, 1) := by decide +kernel
theorem dX2_showPools_3 : decode cX2_showPools 3 = .ok (.aload_n 0, 1) := by decide +kernel
theorem dX2_showPools_4 : decode cX2_showPools 4 = .ok (.getfield 9, 3) := by decide +kernel
theorem dX2_showPools_7 : decode cX2_showPools 7 = .ok (.getfield 48, 3) := by decide +kernel
theorem dX2_showPools_10 : decode cX2_showPools 10 = .ok (.if_icmp .ge 25, 3) := by decide +kernel
theorem dX2_showPools_13 : decode cX2_showPools 13 = .ok (.aload_n 0, 1) := by decide +kernel
theorem dX2_showPools_14 : decode cX2_showPools 14 = .ok (.getfield 15, 3) := by decide +kernel
theorem dX2_showPools_17 : decode cX2_showPools 17 = .ok (.getfield 51, 3) := by decide +kernel
theorem dX2_showPools_20 : decode cX2_showPools 20 = .ok (.iload_n 3, 1) := by decide +kernel
theorem dX2_showPools_21 : decode cX2_showPools 21 = .ok (.aload_n 0, 1) := by decide +kernel
theorem dX2_showPools_22 : decode cX2_showPools 22 = .ok (.iload_n 1, 1) := by decide +kernel
theorem dX2_showPools_23 : decode cX2_showPools 23 = .ok (.iload_n 3, 1) := by decide +kernel
theorem dX2_showPools_24 : decode cX2_showPools 24 = .ok (.iload_n 2, 1) := by decide +kernel
theorem dX2_showPools_25 : decode cX2_showPools 25 = .ok (.invokevirtual 38, 3) := by decide +kernel
theorem dX2_showPools_28 : decode cX2_showPools 28 = .ok (.iastore, 1) := by decide +kernel
theorem dX2_showPools_29 : decode cX2_showPools 29 = .ok (.iinc 3 1, 3) := by decide +kernel
theorem dX2_showPools_32 : decode cX2_showPools 32 = .ok (.goto (-30), 3) := by decide +kernel
theorem dX2_showPools_35 : decode cX2_showPools 35 = .ok (.return_, 1) := by decide +kernel
theorem dX2_takenOfAll_0 : decode cX2_takenOfAll 0 = .ok (.iconst 0, 1) := by decide +kernel
theorem dX2_takenOfAll_1 : decode cX2_takenOfAll 1 = .ok (.istore_n 1, 1) := by decide +kernel
theorem dX2_takenOfAll_2 : decode cX2_takenOfAll 2 = .ok (.iconst 0, 1) := by decide +kernel
theorem dX2_takenOfAll_3 : decode cX2_takenOfAll 3 = .ok (.istore_n 2, 1) := by decide +kernel
theorem dX2_takenOfAll_4 : decode cX2_takenOfAll 4 = .ok (.iload_n 2, 1) := by decide +kernel
theorem dX2_takenOfAll_5 : decode cX2_takenOfAll 5 = .ok (.aload_n 0, 1) := by decide +kernel
theorem dX2_takenOfAll_6 : decode cX2_takenOfAll 6 = .ok (.getfield 9, 3) := by decide +kernel
theorem dX2_takenOfAll_9 : decode cX2_takenOfAll 9 = .ok (.getfield 48, 3) := by decide +kernel
theorem dX2_takenOfAll_12 : decode cX2_takenOfAll 12 = .ok (.if_icmp .ge 17, 3) := by decide +kernel
theorem dX2_takenOfAll_15 : decode cX2_takenOfAll 15 = .ok (.iload_n 1, 1) := by decide +kernel
theorem dX2_takenOfAll_16 : decode cX2_takenOfAll 16 = .ok (.aload_n 0, 1) := by decide +kernel
theorem dX2_takenOfAll_17 : decode cX2_takenOfAll 17 = .ok (.iload_n 2, 1) := by decide +kernel
theorem dX2_takenOfAll_18 : decode cX2_takenOfAll 18 = .ok (.invokevirtual 56, 3) := by decide +kernel
theorem dX2_takenOfAll_21 : decode cX2_takenOfAll 21 = .ok (.iadd, 1) := by decide +kernel
theorem dX2_takenOfAll_22 : decode cX2_takenOfAll 22 = .ok (.istore_n 1, 1) := by decide +kernel
theorem dX2_takenOfAll_23 : decode cX2_takenOfAll 23 = .ok (.iinc 2 1, 3) := by decide +kernel
theorem dX2_takenOfAll_26 : decode cX2_takenOfAll 26 = .ok (.goto (-22), 3) := by decide +kernel
theorem dX2_takenOfAll_29 : decode cX2_takenOfAll 29 = .ok (.iload_n 1, 1) := by decide +kernel
theorem dX2_takenOfAll_30 : decode cX2_takenOfAll 30 = .ok (.ireturn, 1) := by decide +kernel
theorem dX2_metricOfAll_0 : decode cX2_metricOfAll 0 = .ok (.iconst 0, 1) := by decide +kernel
theorem dX2_metricOfAll_1 : decode cX2_metricOfAll 1 = .ok (.istore_n 1, 1) := by decide +kernel
theorem dX2_metricOfAll_2 : decode cX2_metricOfAll 2 = .ok (.iconst 0, 1) := by decide +kernel
theorem dX2_metricOfAll_3 : decode cX2_metricOfAll 3 = .ok (.istore_n 2, 1) := by decide +kernel
theorem dX2_metricOfAll_4 : decode cX2_metricOfAll 4 = .ok (.iload_n 2, 1) := by decide +kernel
theorem dX2_metricOfAll_5 : decode cX2_metricOfAll 5 = .ok (.aload_n 0, 1) := by decide +kernel
theorem dX2_metricOfAll_6 : decode cX2_metricOfAll 6 = .ok (.getfield 9, 3) := by decide +kernel
theorem dX2_metricOfAll_9 : decode cX2_metricOfAll 9 = .ok (.getfield 23, 3) := by decide +kernel
theorem dX2_metricOfAll_12 : decode cX2_metricOfAll 12 = .ok (.if_icmp .ge 28, 3) := by decide +kernel
theorem dX2_metricOfAll_15 : decode cX2_metricOfAll 15 = .ok (.iload_n 1, 1) := by decide +kernel
theorem dX2_metricOfAll_16 : decode cX2_metricOfAll 16 = .ok (.aload_n 0, 1) := by decide +kernel
theorem dX2_metricOfAll_17 : decode cX2_metricOfAll 17 = .ok (.getfield 9, 3) := by decide +kernel
theorem dX2_metricOfAll_20 : decode cX2_metricOfAll 20 = .ok (.aload_n 0, 1) := by decide +kernel
theorem dX2_metricOfAll_21 : decode cX2_metricOfAll 21 = .ok (.getfield 19, 3) := by decide +kernel
theorem dX2_metricOfAll_24 : decode cX2_metricOfAll 24 = .ok (.getfield 29, 3) := by decide +kernel
theorem dX2_metricOfAll_27 : decode cX2_metricOfAll 27 = .ok (.iload_n 2, 1) := by decide +kernel
theorem dX2_metricOfAll_28 : decode cX2_metricOfAll 28 = .ok (.iaload, 1) := by decide +kernel
theorem dX2_metricOfAll_29 : decode cX2_metricOfAll 29 = .ok (.invokevirtual 60, 3) := by decide +kernel
theorem dX2_metricOfAll_32 : decode cX2_metricOfAll 32 = .ok (.iadd, 1) := by decide +kernel
theorem dX2_metricOfAll_33 : decode cX2_metricOfAll 33 = .ok (.istore_n 1, 1) := by decide +kernel
theorem dX2_metricOfAll_34 : decode cX2_metricOfAll 34 = .ok (.iinc 2 1, 3) := by decide +kernel
theorem dX2_metricOfAll_37 : decode cX2_metricOfAll 37 = .ok (.goto (-33), 3) := by decide +kernel
theorem dX2_metricOfAll_40 : decode cX2_metricOfAll 40 = .ok (.iload_n 1, 1) := by decide +kernel
theorem dX2_metricOfAll_41 : decode cX2_metricOfAll 41 = .ok (.ireturn, 1) := by decide +kernel
theorem dX2_fullestLink_0 : decode cX2_fullestLink 0 = .ok (.iconst (-1), 1) := by decide +kernel
theorem dX2_fullestLink_1 : decode cX2_fullestLink 1 = .ok (.istore_n 1, 1) := by decide +kernel
theorem dX2_fullestLink_2 : decode cX2_fullestLink 2 = .ok (.iconst 0, 1) := by decide +kernel
theorem dX2_fullestLink_3 : decode cX2_fullestLink 3 = .ok (.istore_n 2, 1) := by decide +kernel
theorem dX2_fullestLink_4 : decode cX2_fullestLink 4 = .ok (.iload_n 2, 1) := by decide +kernel
theorem dX2_fullestLink_5 : decode cX2_fullestLink 5 = .ok (.aload_n 0, 1) := by decide +kernel
theorem dX2_fullestLink_6 : decode cX2_fullestLink 6 = .ok (.getfield 9, 3) := by decide +kernel
theorem dX2_fullestLink_9 : decode cX2_fullestLink 9 = .ok (.getfield 48, 3) := by decide +kernel
theorem dX2_fullestLink_12 : decode cX2_fullestLink 12 = .ok (.if_icmp .ge 53, 3) := by decide +kernel
theorem dX2_fullestLink_15 : decode cX2_fullestLink 15 = .ok (.aload_n 0, 1) := by decide +kernel
theorem dX2_fullestLink_16 : decode cX2_fullestLink 16 = .ok (.getfield 19, 3) := by decide +kernel
theorem dX2_fullestLink_19 : decode cX2_fullestLink 19 = .ok (.getfield 63, 3) := by decide +kernel
theorem dX2_fullestLink_22 : decode cX2_fullestLink 22 = .ok (.iload_n 2, 1) := by decide +kernel
theorem dX2_fullestLink_23 : decode cX2_fullestLink 23 = .ok (.iushr, 1) := by decide +kernel
theorem dX2_fullestLink_24 : decode cX2_fullestLink 24 = .ok (.iconst 1, 1) := by decide +kernel
theorem dX2_fullestLink_25 : decode cX2_fullestLink 25 = .ok (.iand, 1) := by decide +kernel
theorem dX2_fullestLink_26 : decode cX2_fullestLink 26 = .ok (.ifCond .eq 7, 3) := by decide +kernel
theorem dX2_fullestLink_29 : decode cX2_fullestLink 29 = .ok (.iconst 1, 1) := by decide +kernel
theorem dX2_fullestLink_30 : decode cX2_fullestLink 30 = .ok (.goto 4, 3) := by decide +kernel
theorem dX2_fullestLink_33 : decode cX2_fullestLink 33 = .ok (.iconst 0, 1) := by decide +kernel
theorem dX2_fullestLink_34 : decode cX2_fullestLink 34 = .ok (.istore_n 3, 1) := by decide +kernel
theorem dX2_fullestLink_35 : decode cX2_fullestLink 35 = .ok (.iload_n 3, 1) := by decide +kernel
theorem dX2_fullestLink_36 : decode cX2_fullestLink 36 = .ok (.ifCond .eq 23, 3) := by decide +kernel
theorem dX2_fullestLink_39 : decode cX2_fullestLink 39 = .ok (.iload_n 1, 1) := by decide +kernel
theorem dX2_fullestLink_40 : decode cX2_fullestLink 40 = .ok (.iconst (-1), 1) := by decide +kernel
theorem dX2_fullestLink_41 : decode cX2_fullestLink 41 = .ok (.if_icmp .eq 16, 3) := by decide +kernel
theorem dX2_fullestLink_44 : decode cX2_fullestLink 44 = .ok (.aload_n 0, 1) := by decide +kernel
theorem dX2_fullestLink_45 : decode cX2_fullestLink 45 = .ok (.iload_n 2, 1) := by decide +kernel
theorem dX2_fullestLink_46 : decode cX2_fullestLink 46 = .ok (.invokevirtual 66, 3) := by decide +kernel
theorem dX2_fullestLink_49 : decode cX2_fullestLink 49 = .ok (.aload_n 0, 1) := by decide +kernel
theorem dX2_fullestLink_50 : decode cX2_fullestLink 50 = .ok (.iload_n 1, 1) := by decide +kernel
theorem dX2_fullestLink_51 : decode cX2_fullestLink 51 = .ok (.invokevirtual 66, 3) := by decide +kernel
theorem dX2_fullestLink_54 : decode cX2_fullestLink 54 = .ok (.if_icmp .le 5, 3) := by decide +kernel
theorem dX2_fullestLink_57 : decode cX2_fullestLink 57 = .ok (.iload_n 2, 1) := by decide +kernel
theorem dX2_fullestLink_58 : decode cX2_fullestLink 58 = .ok (.istore_n 1, 1) := by decide +kernel
theorem dX2_fullestLink_59 : decode cX2_fullestLink 59 = .ok (.iinc 2 1, 3) := by decide +kernel
theorem dX2_fullestLink_62 : decode cX2_fullestLink 62 = .ok (.goto (-58), 3) := by decide +kernel
theorem dX2_fullestLink_65 : decode cX2_fullestLink 65 = .ok (.iload_n 1, 1) := by decide +kernel
theorem dX2_fullestLink_66 : decode cX2_fullestLink 66 = .ok (.ireturn, 1) := by decide +kernel
theorem dX2_percentOf_0 : decode cX2_percentOf 0 = .ok (.iload_n 1, 1) := by decide +kernel
theorem dX2_percentOf_1 : decode cX2_percentOf 1 = .ok (.iconst (-1), 1) := by decide +kernel
theorem dX2_percentOf_2 : decode cX2_percentOf 2 = .ok (.if_icmp .eq 15, 3) := by decide +kernel
theorem dX2_percentOf_5 : decode cX2_percentOf 5 = .ok (.aload_n 0, 1) := by decide +kernel
theorem dX2_percentOf_6 : decode cX2_percentOf 6 = .ok (.getfield 9, 3) := by decide +kernel
theorem dX2_percentOf_9 : decode cX2_percentOf 9 = .ok (.getfield 35, 3) := by decide +kernel
theorem dX2_percentOf_12 : decode cX2_percentOf 12 = .ok (.iload_n 1, 1) := by decide +kernel
theorem dX2_percentOf_13 : decode cX2_percentOf 13 = .ok (.iaload, 1) := by decide +kernel
theorem dX2_percentOf_14 : decode cX2_percentOf 14 = .ok (.ifCond .gt 5, 3) := by decide +kernel
theorem dX2_percentOf_17 : decode cX2_percentOf 17 = .ok (.iconst 0, 1) := by decide +kernel
theorem dX2_percentOf_18 : decode cX2_percentOf 18 = .ok (.ireturn, 1) := by decide +kernel
theorem dX2_percentOf_19 : decode cX2_percentOf 19 = .ok (.bipush 100, 2) := by decide +kernel
theorem dX2_percentOf_21 : decode cX2_percentOf 21 = .ok (.aload_n 0, 1) := by decide +kernel
theorem dX2_percentOf_22 : decode cX2_percentOf 22 = .ok (.iload_n 1, 1) := by decide +kernel
theorem dX2_percentOf_23 : decode cX2_percentOf 23 = .ok (.invokevirtual 56, 3) := by decide +kernel
theorem dX2_percentOf_26 : decode cX2_percentOf 26 = .ok (.imul, 1) := by decide +kernel
theorem dX2_percentOf_27 : decode cX2_percentOf 27 = .ok (.aload_n 0, 1) := by decide +kernel
theorem dX2_percentOf_28 : decode cX2_percentOf 28 = .ok (.getfield 9, 3) := by decide +kernel
theorem dX2_percentOf_31 : decode cX2_percentOf 31 = .ok (.getfield 35, 3) := by decide +kernel
theorem dX2_percentOf_34 : decode cX2_percentOf 34 = .ok (.iload_n 1, 1) := by decide +kernel
theorem dX2_percentOf_35 : decode cX2_percentOf 35 = .ok (.iaload, 1) := by decide +kernel
theorem dX2_percentOf_36 : decode cX2_percentOf 36 = .ok (.idiv, 1) := by decide +kernel
theorem dX2_percentOf_37 : decode cX2_percentOf 37 = .ok (.ireturn, 1) := by decide +kernel
theorem dX2_openTo_0 : decode cX2_openTo 0 = .ok (.iconst 0, 1) := by decide +kernel
theorem dX2_openTo_1 : decode cX2_openTo 1 = .ok (.istore_n 2, 1) := by decide +kernel
theorem dX2_openTo_2 : decode cX2_openTo 2 = .ok (.iconst 0, 1) := by decide +kernel
theorem dX2_openTo_3 : decode cX2_openTo 3 = .ok (.istore_n 3, 1) := by decide +kernel
theorem dX2_openTo_4 : decode cX2_openTo 4 = .ok (.iload_n 3, 1) := by decide +kernel
theorem dX2_openTo_5 : decode cX2_openTo 5 = .ok (.aload_n 0, 1) := by decide +kernel
theorem dX2_openTo_6 : decode cX2_openTo 6 = .ok (.getfield 9, 3) := by decide +kernel
theorem dX2_openTo_9 : decode cX2_openTo 9 = .ok (.getfield 48, 3) := by decide +kernel
theorem dX2_openTo_12 : decode cX2_openTo 12 = .ok (.if_icmp .ge 45, 3) := by decide +kernel
theorem dX2_openTo_15 : decode cX2_openTo 15 = .ok (.aload_n 0, 1) := by decide +kernel
theorem dX2_openTo_16 : decode cX2_openTo 16 = .ok (.getfield 9, 3) := by decide +kernel
theorem dX2_openTo_19 : decode cX2_openTo 19 = .ok (.getfield 69, 3) := by decide +kernel
theorem dX2_openTo_22 : decode cX2_openTo 22 = .ok (.iload_n 3, 1) := by decide +kernel
theorem dX2_openTo_23 : decode cX2_openTo 23 = .ok (.iaload, 1) := by decide +kernel
theorem dX2_openTo_24 : decode cX2_openTo 24 = .ok (.aload_n 0, 1) := by decide +kernel
theorem dX2_openTo_25 : decode cX2_openTo 25 = .ok (.getfield 9, 3) := by decide +kernel
theorem dX2_openTo_28 : decode cX2_openTo 28 = .ok (.getfield 72, 3) := by decide +kernel
theorem dX2_openTo_31 : decode cX2_openTo 31 = .ok (.iload_n 1, 1) := by decide +kernel
theorem dX2_openTo_32 : decode cX2_openTo 32 = .ok (.iaload, 1) := by decide +kernel
theorem dX2_openTo_33 : decode cX2_openTo 33 = .ok (.iand, 1) := by decide +kernel
theorem dX2_openTo_34 : decode cX2_openTo 34 = .ok (.ifCond .ne 17, 3) := by decide +kernel
theorem dX2_openTo_37 : decode cX2_openTo 37 = .ok (.iload_n 2, 1) := by decide +kernel
theorem dX2_openTo_38 : decode cX2_openTo 38 = .ok (.aload_n 0, 1) := by decide +kernel
theorem dX2_openTo_39 : decode cX2_openTo 39 = .ok (.getfield 19, 3) := by decide +kernel
theorem dX2_openTo_42 : decode cX2_openTo 42 = .ok (.getfield 63, 3) := by decide +kernel
theorem dX2_openTo_45 : decode cX2_openTo 45 = .ok (.iconst 1, 1) := by decide +kernel
theorem dX2_openTo_46 : decode cX2_openTo 46 = .ok (.iload_n 3, 1) := by decide +kernel
theorem dX2_openTo_47 : decode cX2_openTo 47 = .ok (.ishl, 1) := by decide +kernel
theorem dX2_openTo_48 : decode cX2_openTo 48 = .ok (.iand, 1) := by decide +kernel
theorem dX2_openTo_49 : decode cX2_openTo 49 = .ok (.ior, 1) := by decide +kernel
theorem dX2_openTo_50 : decode cX2_openTo 50 = .ok (.istore_n 2, 1) := by decide +kernel
theorem dX2_openTo_51 : decode cX2_openTo 51 = .ok (.iinc 3 1, 3) := by decide +kernel
theorem dX2_openTo_54 : decode cX2_openTo 54 = .ok (.goto (-50), 3) := by decide +kernel
theorem dX2_openTo_57 : decode cX2_openTo 57 = .ok (.iload_n 2, 1) := by decide +kernel
theorem dX2_openTo_58 : decode cX2_openTo 58 = .ok (.ireturn, 1) := by decide +kernel
theorem dX2_leastMetric_0 : decode cX2_leastMetric 0 = .ok (.aload_n 0, 1) := by decide +kernel
theorem dX2_leastMetric_1 : decode cX2_leastMetric 1 = .ok (.getfield 15, 3) := by decide +kernel
theorem dX2_leastMetric_4 : decode cX2_leastMetric 4 = .ok (.aload_n 0, 1) := by decide +kernel
theorem dX2_leastMetric_5 : decode cX2_leastMetric 5 = .ok (.iload_n 1, 1) := by decide +kernel
theorem dX2_leastMetric_6 : decode cX2_leastMetric 6 = .ok (.invokevirtual 75, 3) := by decide +kernel
theorem dX2_leastMetric_9 : decode cX2_leastMetric 9 = .ok (.aload_n 0, 1) := by decide +kernel
theorem dX2_leastMetric_10 : decode cX2_leastMetric 10 = .ok (.getfield 9, 3) := by decide +kernel
theorem dX2_leastMetric_13 : decode cX2_leastMetric 13 = .ok (.getfield 78, 3) := by decide +kernel
theorem dX2_leastMetric_16 : decode cX2_leastMetric 16 = .ok (.iload_n 1, 1) := by decide +kernel
theorem dX2_leastMetric_17 : decode cX2_leastMetric 17 = .ok (.iaload, 1) := by decide +kernel
theorem dX2_leastMetric_18 : decode cX2_leastMetric 18 = .ok (.aload_n 0, 1) := by decide +kernel
theorem dX2_leastMetric_19 : decode cX2_leastMetric 19 = .ok (.getfield 9, 3) := by decide +kernel
theorem dX2_leastMetric_22 : decode cX2_leastMetric 22 = .ok (.getfield 81, 3) := by decide +kernel
theorem dX2_leastMetric_25 : decode cX2_leastMetric 25 = .ok (.iload_n 1, 1) := by decide +kernel
theorem dX2_leastMetric_26 : decode cX2_leastMetric 26 = .ok (.iaload, 1) := by decide +kernel
theorem dX2_leastMetric_27 : decode cX2_leastMetric 27 = .ok (.aload_n 0, 1) := by decide +kernel
theorem dX2_leastMetric_28 : decode cX2_leastMetric 28 = .ok (.getfield 9, 3) := by decide +kernel
theorem dX2_leastMetric_31 : decode cX2_leastMetric 31 = .ok (.getfield 84, 3) := by decide +kernel
theorem dX2_leastMetric_34 : decode cX2_leastMetric 34 = .ok (.iload_n 1, 1) := by decide +kernel
theorem dX2_leastMetric_35 : decode cX2_leastMetric 35 = .ok (.iaload, 1) := by decide +kernel
theorem dX2_leastMetric_36 : decode cX2_leastMetric 36 = .ok (.invokevirtual 87, 3) := by decide +kernel
theorem dX2_leastMetric_39 : decode cX2_leastMetric 39 = .ok (.ireturn, 1) := by decide +kernel
theorem dX2_fitting_0 : decode cX2_fitting 0 = .ok (.aload_n 0, 1) := by decide +kernel
theorem dX2_fitting_1 : decode cX2_fitting 1 = .ok (.iload_n 1, 1) := by decide +kernel
theorem dX2_fitting_2 : decode cX2_fitting 2 = .ok (.invokevirtual 75, 3) := by decide +kernel
theorem dX2_fitting_5 : decode cX2_fitting 5 = .ok (.istore 4, 2) := by decide +kernel
theorem dX2_fitting_7 : decode cX2_fitting 7 = .ok (.iconst 0, 1) := by decide +kernel
theorem dX2_fitting_8 : decode cX2_fitting 8 = .ok (.istore 5, 2) := by decide +kernel
theorem dX2_fitting_10 : decode cX2_fitting 10 = .ok (.iconst 0, 1) := by decide +kernel
theorem dX2_fitting_11 : decode cX2_fitting 11 = .ok (.istore 6, 2) := by decide +kernel
theorem dX2_fitting_13 : decode cX2_fitting 13 = .ok (.iload 6, 2) := by decide +kernel
theorem dX2_fitting_15 : decode cX2_fitting 15 = .ok (.aload_n 0, 1) := by decide +kernel
theorem dX2_fitting_16 : decode cX2_fitting 16 = .ok (.getfield 9, 3) := by decide +kernel
theorem dX2_fitting_19 : decode cX2_fitting 19 = .ok (.getfield 48, 3) := by decide +kernel
theorem dX2_fitting_22 : decode cX2_fitting 22 = .ok (.if_icmp .ge 40, 3) := by decide +kernel
theorem dX2_fitting_25 : decode cX2_fitting 25 = .ok (.iload 4, 2) := by decide +kernel
theorem dX2_fitting_27 : decode cX2_fitting 27 = .ok (.iload 6, 2) := by decide +kernel
theorem dX2_fitting_29 : decode cX2_fitting 29 = .ok (.iushr, 1) := by decide +kernel
theorem dX2_fitting_30 : decode cX2_fitting 30 = .ok (.iconst 1, 1) := by decide +kernel
theorem dX2_fitting_31 : decode cX2_fitting 31 = .ok (.iand, 1) := by decide +kernel
theorem dX2_fitting_32 : decode cX2_fitting 32 = .ok (.ifCond .eq 24, 3) := by decide +kernel
theorem dX2_fitting_35 : decode cX2_fitting 35 = .ok (.aload_n 0, 1) := by decide +kernel
theorem dX2_fitting_36 : decode cX2_fitting 36 = .ok (.iload_n 1, 1) := by decide +kernel
theorem dX2_fitting_37 : decode cX2_fitting 37 = .ok (.iload 6, 2) := by decide +kernel
theorem dX2_fitting_39 : decode cX2_fitting 39 = .ok (.iload_n 3, 1) := by decide +kernel
theorem dX2_fitting_40 : decode cX2_fitting 40 = .ok (.invokevirtual 38, 3) := by decide +kernel
theorem dX2_fitting_43 : decode cX2_fitting 43 = .ok (.iload_n 2, 1) := by decide +kernel
theorem dX2_fitting_44 : decode cX2_fitting 44 = .ok (.if_icmp .lt 12, 3) := by decide +kernel
theorem dX2_fitting_47 : decode cX2_fitting 47 = .ok (.iload 5, 2) := by decide +kernel
theorem dX2_fitting_49 : decode cX2_fitting 49 = .ok (.iconst 1, 1) := by decide +kernel
theorem dX2_fitting_50 : decode cX2_fitting 50 = .ok (.iload 6, 2) := by decide +kernel
theorem dX2_fitting_52 : decode cX2_fitting 52 = .ok (.ishl, 1) := by decide +kernel
theorem dX2_fitting_53 : decode cX2_fitting 53 = .ok (.ior, 1) := by decide +kernel
theorem dX2_fitting_54 : decode cX2_fitting 54 = .ok (.istore 5, 2) := by decide +kernel
theorem dX2_fitting_56 : decode cX2_fitting 56 = .ok (.iinc 6 1, 3) := by decide +kernel
theorem dX2_fitting_59 : decode cX2_fitting 59 = .ok (.goto (-46), 3) := by decide +kernel
theorem dX2_fitting_62 : decode cX2_fitting 62 = .ok (.iload 5, 2) := by decide +kernel
theorem dX2_fitting_64 : decode cX2_fitting 64 = .ok (.ireturn, 1) := by decide +kernel
theorem dX2_bestNow_0 : decode cX2_bestNow 0 = .ok (.aload_n 0, 1) := by decide +kernel
theorem dX2_bestNow_1 : decode cX2_bestNow 1 = .ok (.iload_n 1, 1) := by decide +kernel
theorem dX2_bestNow_2 : decode cX2_bestNow 2 = .ok (.aload_n 0, 1) := by decide +kernel
theorem dX2_bestNow_3 : decode cX2_bestNow 3 = .ok (.getfield 19, 3) := by decide +kernel
theorem dX2_bestNow_6 : decode cX2_bestNow 6 = .ok (.getfield 45, 3) := by decide +kernel
theorem dX2_bestNow_9 : decode cX2_bestNow 9 = .ok (.iload_n 1, 1) := by decide +kernel
theorem dX2_bestNow_10 : decode cX2_bestNow 10 = .ok (.iaload, 1) := by decide +kernel
theorem dX2_bestNow_11 : decode cX2_bestNow 11 = .ok (.aload_n 0, 1) := by decide +kernel
theorem dX2_bestNow_12 : decode cX2_bestNow 12 = .ok (.getfield 9, 3) := by decide +kernel
theorem dX2_bestNow_15 : decode cX2_bestNow 15 = .ok (.getfield 91, 3) := by decide +kernel
theorem dX2_bestNow_18 : decode cX2_bestNow 18 = .ok (.iload_n 1, 1) := by decide +kernel
theorem dX2_bestNow_19 : decode cX2_bestNow 19 = .ok (.iaload, 1) := by decide +kernel
theorem dX2_bestNow_20 : decode cX2_bestNow 20 = .ok (.invokevirtual 94, 3) := by decide +kernel
theorem dX2_bestNow_23 : decode cX2_bestNow 23 = .ok (.ireturn, 1) := by decide +kernel
theorem dX2_bestWay_0 : decode cX2_bestWay 0 = .ok (.aload_n 0, 1) := by decide +kernel
theorem dX2_bestWay_1 : decode cX2_bestWay 1 = .ok (.iload_n 1, 1) := by decide +kernel
theorem dX2_bestWay_2 : decode cX2_bestWay 2 = .ok (.iload_n 2, 1) := by decide +kernel
theorem dX2_bestWay_3 : decode cX2_bestWay 3 = .ok (.iload_n 3, 1) := by decide +kernel
theorem dX2_bestWay_4 : decode cX2_bestWay 4 = .ok (.invokevirtual 97, 3) := by decide +kernel
theorem dX2_bestWay_7 : decode cX2_bestWay 7 = .ok (.istore 4, 2) := by decide +kernel
theorem dX2_bestWay_9 : decode cX2_bestWay 9 = .ok (.aload_n 0, 1) := by decide +kernel
theorem dX2_bestWay_10 : decode cX2_bestWay 10 = .ok (.iload_n 1, 1) := by decide +kernel
theorem dX2_bestWay_11 : decode cX2_bestWay 11 = .ok (.bipush 7, 2) := by decide +kernel
theorem dX2_bestWay_13 : decode cX2_bestWay 13 = .ok (.invokevirtual 100, 3) := by decide +kernel
theorem dX2_bestWay_16 : decode cX2_bestWay 16 = .ok (.aload_n 0, 1) := by decide +kernel
theorem dX2_bestWay_17 : decode cX2_bestWay 17 = .ok (.getfield 15, 3) := by decide +kernel
theorem dX2_bestWay_20 : decode cX2_bestWay 20 = .ok (.iload 4, 2) := by decide +kernel
theorem dX2_bestWay_22 : decode cX2_bestWay 22 = .ok (.aload_n 0, 1) := by decide +kernel
theorem dX2_bestWay_23 : decode cX2_bestWay 23 = .ok (.getfield 9, 3) := by decide +kernel
theorem dX2_bestWay_26 : decode cX2_bestWay 26 = .ok (.getfield 78, 3) := by decide +kernel
theorem dX2_bestWay_29 : decode cX2_bestWay 29 = .ok (.iload_n 1, 1) := by decide +kernel
theorem dX2_bestWay_30 : decode cX2_bestWay 30 = .ok (.iaload, 1) := by decide +kernel
theorem dX2_bestWay_31 : decode cX2_bestWay 31 = .ok (.aload_n 0, 1) := by decide +kernel
theorem dX2_bestWay_32 : decode cX2_bestWay 32 = .ok (.getfield 9, 3) := by decide +kernel
theorem dX2_bestWay_35 : decode cX2_bestWay 35 = .ok (.getfield 81, 3) := by decide +kernel
theorem dX2_bestWay_38 : decode cX2_bestWay 38 = .ok (.iload_n 1, 1) := by decide +kernel
theorem dX2_bestWay_39 : decode cX2_bestWay 39 = .ok (.iaload, 1) := by decide +kernel
theorem dX2_bestWay_40 : decode cX2_bestWay 40 = .ok (.aload_n 0, 1) := by decide +kernel
theorem dX2_bestWay_41 : decode cX2_bestWay 41 = .ok (.getfield 9, 3) := by decide +kernel
theorem dX2_bestWay_44 : decode cX2_bestWay 44 = .ok (.getfield 84, 3) := by decide +kernel
theorem dX2_bestWay_47 : decode cX2_bestWay 47 = .ok (.iload_n 1, 1) := by decide +kernel
theorem dX2_bestWay_48 : decode cX2_bestWay 48 = .ok (.iaload, 1) := by decide +kernel
theorem dX2_bestWay_49 : decode cX2_bestWay 49 = .ok (.invokevirtual 104, 3) := by decide +kernel
theorem dX2_bestWay_52 : decode cX2_bestWay 52 = .ok (.ireturn, 1) := by decide +kernel
theorem dX2_hasWayWithout_0 : decode cX2_hasWayWithout 0 = .ok (.aload_n 0, 1) := by decide +kernel
theorem dX2_hasWayWithout_1 : decode cX2_hasWayWithout 1 = .ok (.iload_n 1, 1) := by decide +kernel
theorem dX2_hasWayWithout_2 : decode cX2_hasWayWithout 2 = .ok (.aload_n 0, 1) := by decide +kernel
theorem dX2_hasWayWithout_3 : decode cX2_hasWayWithout 3 = .ok (.getfield 19, 3) := by decide +kernel
theorem dX2_hasWayWithout_6 : decode cX2_hasWayWithout 6 = .ok (.getfield 45, 3) := by decide +kernel
theorem dX2_hasWayWithout_9 : decode cX2_hasWayWithout 9 = .ok (.iload_n 1, 1) := by decide +kernel
theorem dX2_hasWayWithout_10 : decode cX2_hasWayWithout 10 = .ok (.iaload, 1) := by decide +kernel
theorem dX2_hasWayWithout_11 : decode cX2_hasWayWithout 11 = .ok (.aload_n 0, 1) := by decide +kernel
theorem dX2_hasWayWithout_12 : decode cX2_hasWayWithout 12 = .ok (.getfield 9, 3) := by decide +kernel
theorem dX2_hasWayWithout_15 : decode cX2_hasWayWithout 15 = .ok (.getfield 91, 3) := by decide +kernel
theorem dX2_hasWayWithout_18 : decode cX2_hasWayWithout 18 = .ok (.iload_n 1, 1) := by decide +kernel
theorem dX2_hasWayWithout_19 : decode cX2_hasWayWithout 19 = .ok (.iaload, 1) := by decide +kernel
theorem dX2_hasWayWithout_20 : decode cX2_hasWayWithout 20 = .ok (.invokevirtual 97, 3) := by decide +kernel
theorem dX2_hasWayWithout_23 : decode cX2_hasWayWithout 23 = .ok (.iconst 1, 1) := by decide +kernel
theorem dX2_hasWayWithout_24 : decode cX2_hasWayWithout 24 = .ok (.iload_n 2, 1) := by decide +kernel
theorem dX2_hasWayWithout_25 : decode cX2_hasWayWithout 25 = .ok (.ishl, 1) := by decide +kernel
theorem dX2_hasWayWithout_26 : decode cX2_hasWayWithout 26 = .ok (.iconst (-1), 1) := by decide +kernel
theorem dX2_hasWayWithout_27 : decode cX2_hasWayWithout 27 = .ok (.ixor, 1) := by decide +kernel
theorem dX2_hasWayWithout_28 : decode cX2_hasWayWithout 28 = .ok (.iand, 1) := by decide +kernel
theorem dX2_hasWayWithout_29 : decode cX2_hasWayWithout 29 = .ok (.istore_n 3, 1) := by decide +kernel
theorem dX2_hasWayWithout_30 : decode cX2_hasWayWithout 30 = .ok (.aload_n 0, 1) := by decide +kernel
theorem dX2_hasWayWithout_31 : decode cX2_hasWayWithout 31 = .ok (.getfield 15, 3) := by decide +kernel
theorem dX2_hasWayWithout_34 : decode cX2_hasWayWithout 34 = .ok (.iload_n 3, 1) := by decide +kernel
theorem dX2_hasWayWithout_35 : decode cX2_hasWayWithout 35 = .ok (.aload_n 0, 1) := by decide +kernel
theorem dX2_hasWayWithout_36 : decode cX2_hasWayWithout 36 = .ok (.getfield 9, 3) := by decide +kernel
theorem dX2_hasWayWithout_39 : decode cX2_hasWayWithout 39 = .ok (.getfield 78, 3) := by decide +kernel
theorem dX2_hasWayWithout_42 : decode cX2_hasWayWithout 42 = .ok (.iload_n 1, 1) := by decide +kernel
theorem dX2_hasWayWithout_43 : decode cX2_hasWayWithout 43 = .ok (.iaload, 1) := by decide +kernel
theorem dX2_hasWayWithout_44 : decode cX2_hasWayWithout 44 = .ok (.aload_n 0, 1) := by decide +kernel
theorem dX2_hasWayWithout_45 : decode cX2_hasWayWithout 45 = .ok (.getfield 9, 3) := by decide +kernel
theorem dX2_hasWayWithout_48 : decode cX2_hasWayWithout 48 = .ok (.getfield 81, 3) := by decide +kernel
theorem dX2_hasWayWithout_51 : decode cX2_hasWayWithout 51 = .ok (.iload_n 1, 1) := by decide +kernel
theorem dX2_hasWayWithout_52 : decode cX2_hasWayWithout 52 = .ok (.iaload, 1) := by decide +kernel
theorem dX2_hasWayWithout_53 : decode cX2_hasWayWithout 53 = .ok (.aload_n 0, 1) := by decide +kernel
theorem dX2_hasWayWithout_54 : decode cX2_hasWayWithout 54 = .ok (.getfield 9, 3) := by decide +kernel
theorem dX2_hasWayWithout_57 : decode cX2_hasWayWithout 57 = .ok (.getfield 84, 3) := by decide +kernel
theorem dX2_hasWayWithout_60 : decode cX2_hasWayWithout 60 = .ok (.iload_n 1, 1) := by decide +kernel
theorem dX2_hasWayWithout_61 : decode cX2_hasWayWithout 61 = .ok (.iaload, 1) := by decide +kernel
theorem dX2_hasWayWithout_62 : decode cX2_hasWayWithout 62 = .ok (.invokevirtual 107, 3) := by decide +kernel
theorem dX2_hasWayWithout_65 : decode cX2_hasWayWithout 65 = .ok (.ireturn, 1) := by decide +kernel
theorem dX2_drop_0 : decode cX2_drop 0 = .ok (.iconst 0, 1) := by decide +kernel
theorem dX2_drop_1 : decode cX2_drop 1 = .ok (.istore_n 2, 1) := by decide +kernel
theorem dX2_drop_2 : decode cX2_drop 2 = .ok (.iload_n 2, 1) := by decide +kernel
theorem dX2_drop_3 : decode cX2_drop 3 = .ok (.aload_n 0, 1) := by decide +kernel
theorem dX2_drop_4 : decode cX2_drop 4 = .ok (.getfield 9, 3) := by decide +kernel
theorem dX2_drop_7 : decode cX2_drop 7 = .ok (.getfield 23, 3) := by decide +kernel
theorem dX2_drop_10 : decode cX2_drop 10 = .ok (.if_icmp .ge 27, 3) := by decide +kernel
theorem dX2_drop_13 : decode cX2_drop 13 = .ok (.iload_n 1, 1) := by decide +kernel
theorem dX2_drop_14 : decode cX2_drop 14 = .ok (.iload_n 2, 1) := by decide +kernel
theorem dX2_drop_15 : decode cX2_drop 15 = .ok (.iushr, 1) := by decide +kernel
theorem dX2_drop_16 : decode cX2_drop 16 = .ok (.iconst 1, 1) := by decide +kernel
theorem dX2_drop_17 : decode cX2_drop 17 = .ok (.iand, 1) := by decide +kernel
theorem dX2_drop_18 : decode cX2_drop 18 = .ok (.ifCond .eq 13, 3) := by decide +kernel
theorem dX2_drop_21 : decode cX2_drop 21 = .ok (.aload_n 0, 1) := by decide +kernel
theorem dX2_drop_22 : decode cX2_drop 22 = .ok (.getfield 19, 3) := by decide +kernel
theorem dX2_drop_25 : decode cX2_drop 25 = .ok (.getfield 29, 3) := by decide +kernel
theorem dX2_drop_28 : decode cX2_drop 28 = .ok (.iload_n 2, 1) := by decide +kernel
theorem dX2_drop_29 : decode cX2_drop 29 = .ok (.iconst 0, 1) := by decide +kernel
theorem dX2_drop_30 : decode cX2_drop 30 = .ok (.iastore, 1) := by decide +kernel
theorem dX2_drop_31 : decode cX2_drop 31 = .ok (.iinc 2 1, 3) := by decide +kernel
theorem dX2_drop_34 : decode cX2_drop 34 = .ok (.goto (-32), 3) := by decide +kernel
theorem dX2_drop_37 : decode cX2_drop 37 = .ok (.return_, 1) := by decide +kernel
theorem dX2_breakLink_0 : decode cX2_breakLink 0 = .ok (.aload_n 0, 1) := by decide +kernel
theorem dX2_breakLink_1 : decode cX2_breakLink 1 = .ok (.iload_n 1, 1) := by decide +kernel
theorem dX2_breakLink_2 : decode cX2_breakLink 2 = .ok (.invokevirtual 111, 3) := by decide +kernel
theorem dX2_breakLink_5 : decode cX2_breakLink 5 = .ok (.istore_n 2, 1) := by decide +kernel
theorem dX2_breakLink_6 : decode cX2_breakLink 6 = .ok (.aload_n 0, 1) := by decide +kernel
theorem dX2_breakLink_7 : decode cX2_breakLink 7 = .ok (.iload_n 2, 1) := by decide +kernel
theorem dX2_breakLink_8 : decode cX2_breakLink 8 = .ok (.invokevirtual 114, 3) := by decide +kernel
theorem dX2_breakLink_11 : decode cX2_breakLink 11 = .ok (.aload_n 0, 1) := by decide +kernel
theorem dX2_breakLink_12 : decode cX2_breakLink 12 = .ok (.getfield 19, 3) := by decide +kernel
theorem dX2_breakLink_15 : decode cX2_breakLink 15 = .ok (.dup, 1) := by decide +kernel
theorem dX2_breakLink_16 : decode cX2_breakLink 16 = .ok (.getfield 63, 3) := by decide +kernel
theorem dX2_breakLink_19 : decode cX2_breakLink 19 = .ok (.iconst 1, 1) := by decide +kernel
theorem dX2_breakLink_20 : decode cX2_breakLink 20 = .ok (.iload_n 1, 1) := by decide +kernel
theorem dX2_breakLink_21 : decode cX2_breakLink 21 = .ok (.ishl, 1) := by decide +kernel
theorem dX2_breakLink_22 : decode cX2_breakLink 22 = .ok (.iconst (-1), 1) := by decide +kernel
theorem dX2_breakLink_23 : decode cX2_breakLink 23 = .ok (.ixor, 1) := by decide +kernel
theorem dX2_breakLink_24 : decode cX2_breakLink 24 = .ok (.iand, 1) := by decide +kernel
theorem dX2_breakLink_25 : decode cX2_breakLink 25 = .ok (.putfield 63, 3) := by decide +kernel
theorem dX2_breakLink_28 : decode cX2_breakLink 28 = .ok (.iload_n 2, 1) := by decide +kernel
theorem dX2_breakLink_29 : decode cX2_breakLink 29 = .ok (.ireturn, 1) := by decide +kernel
theorem dX2_settle_0 : decode cX2_settle 0 = .ok (.iload_n 1, 1) := by decide +kernel
theorem dX2_settle_1 : decode cX2_settle 1 = .ok (.istore_n 2, 1) := by decide +kernel
theorem dX2_settle_2 : decode cX2_settle 2 = .ok (.iconst 0, 1) := by decide +kernel
theorem dX2_settle_3 : decode cX2_settle 3 = .ok (.istore_n 3, 1) := by decide +kernel
theorem dX2_settle_4 : decode cX2_settle 4 = .ok (.iconst 0, 1) := by decide +kernel
theorem dX2_settle_5 : decode cX2_settle 5 = .ok (.istore 4, 2) := by decide +kernel
theorem dX2_settle_7 : decode cX2_settle 7 = .ok (.iload 4, 2) := by decide +kernel
theorem dX2_settle_9 : decode cX2_settle 9 = .ok (.bipush 9, 2) := by decide +kernel
theorem dX2_settle_11 : decode cX2_settle 11 = .ok (.if_icmp .ge 101, 3) := by decide +kernel
theorem dX2_settle_14 : decode cX2_settle 14 = .ok (.iload_n 2, 1) := by decide +kernel
theorem dX2_settle_15 : decode cX2_settle 15 = .ok (.ifCond .eq 97, 3) := by decide +kernel
theorem dX2_settle_18 : decode cX2_settle 18 = .ok (.aload_n 0, 1) := by decide +kernel
theorem dX2_settle_19 : decode cX2_settle 19 = .ok (.iload_n 2, 1) := by decide +kernel
theorem dX2_settle_20 : decode cX2_settle 20 = .ok (.invokevirtual 118, 3) := by decide +kernel
theorem dX2_settle_23 : decode cX2_settle 23 = .ok (.istore 5, 2) := by decide +kernel
theorem dX2_settle_25 : decode cX2_settle 25 = .ok (.iload_n 2, 1) := by decide +kernel
theorem dX2_settle_26 : decode cX2_settle 26 = .ok (.iconst 1, 1) := by decide +kernel
theorem dX2_settle_27 : decode cX2_settle 27 = .ok (.iload 5, 2) := by decide +kernel
theorem dX2_settle_29 : decode cX2_settle 29 = .ok (.ishl, 1) := by decide +kernel
theorem dX2_settle_30 : decode cX2_settle 30 = .ok (.iconst (-1), 1) := by decide +kernel
theorem dX2_settle_31 : decode cX2_settle 31 = .ok (.ixor, 1) := by decide +kernel
theorem dX2_settle_32 : decode cX2_settle 32 = .ok (.iand, 1) := by decide +kernel
theorem dX2_settle_33 : decode cX2_settle 33 = .ok (.istore_n 2, 1) := by decide +kernel
theorem dX2_settle_34 : decode cX2_settle 34 = .ok (.aload_n 0, 1) := by decide +kernel
theorem dX2_settle_35 : decode cX2_settle 35 = .ok (.iload 5, 2) := by decide +kernel
theorem dX2_settle_37 : decode cX2_settle 37 = .ok (.aload_n 0, 1) := by decide +kernel
theorem dX2_settle_38 : decode cX2_settle 38 = .ok (.getfield 19, 3) := by decide +kernel
theorem dX2_settle_41 : decode cX2_settle 41 = .ok (.getfield 45, 3) := by decide +kernel
theorem dX2_settle_44 : decode cX2_settle 44 = .ok (.iload 5, 2) := by decide +kernel
theorem dX2_settle_46 : decode cX2_settle 46 = .ok (.iaload, 1) := by decide +kernel
theorem dX2_settle_47 : decode cX2_settle 47 = .ok (.aload_n 0, 1) := by decide +kernel
theorem dX2_settle_48 : decode cX2_settle 48 = .ok (.getfield 9, 3) := by decide +kernel
theorem dX2_settle_51 : decode cX2_settle 51 = .ok (.getfield 91, 3) := by decide +kernel
theorem dX2_settle_54 : decode cX2_settle 54 = .ok (.iload 5, 2) := by decide +kernel
theorem dX2_settle_56 : decode cX2_settle 56 = .ok (.iaload, 1) := by decide +kernel
theorem dX2_settle_57 : decode cX2_settle 57 = .ok (.invokevirtual 94, 3) := by decide +kernel
theorem dX2_settle_60 : decode cX2_settle 60 = .ok (.istore 6, 2) := by decide +kernel
theorem dX2_settle_62 : decode cX2_settle 62 = .ok (.iload 6, 2) := by decide +kernel
theorem dX2_settle_64 : decode cX2_settle 64 = .ok (.ifCond .eq 42, 3) := by decide +kernel
theorem dX2_settle_67 : decode cX2_settle 67 = .ok (.aload_n 0, 1) := by decide +kernel
theorem dX2_settle_68 : decode cX2_settle 68 = .ok (.getfield 19, 3) := by decide +kernel
theorem dX2_settle_71 : decode cX2_settle 71 = .ok (.getfield 29, 3) := by decide +kernel
theorem dX2_settle_74 : decode cX2_settle 74 = .ok (.iload 5, 2) := by decide +kernel
theorem dX2_settle_76 : decode cX2_settle 76 = .ok (.iload 6, 2) := by decide +kernel
theorem dX2_settle_78 : decode cX2_settle 78 = .ok (.iastore, 1) := by decide +kernel
theorem dX2_settle_79 : decode cX2_settle 79 = .ok (.aload_n 0, 1) := by decide +kernel
theorem dX2_settle_80 : decode cX2_settle 80 = .ok (.iload 5, 2) := by decide +kernel
theorem dX2_settle_82 : decode cX2_settle 82 = .ok (.invokevirtual 121, 3) := by decide +kernel
theorem dX2_settle_85 : decode cX2_settle 85 = .ok (.istore 7, 2) := by decide +kernel
theorem dX2_settle_87 : decode cX2_settle 87 = .ok (.aload_n 0, 1) := by decide +kernel
theorem dX2_settle_88 : decode cX2_settle 88 = .ok (.iload 7, 2) := by decide +kernel
theorem dX2_settle_90 : decode cX2_settle 90 = .ok (.invokevirtual 114, 3) := by decide +kernel
theorem dX2_settle_93 : decode cX2_settle 93 = .ok (.iload_n 2, 1) := by decide +kernel
theorem dX2_settle_94 : decode cX2_settle 94 = .ok (.iload 7, 2) := by decide +kernel
theorem dX2_settle_96 : decode cX2_settle 96 = .ok (.ior, 1) := by decide +kernel
theorem dX2_settle_97 : decode cX2_settle 97 = .ok (.istore_n 2, 1) := by decide +kernel
theorem dX2_settle_98 : decode cX2_settle 98 = .ok (.iload_n 3, 1) := by decide +kernel
theorem dX2_settle_99 : decode cX2_settle 99 = .ok (.iload 7, 2) := by decide +kernel
theorem dX2_settle_101 : decode cX2_settle 101 = .ok (.invokestatic 124, 3) := by decide +kernel
theorem dX2_settle_104 : decode cX2_settle 104 = .ok (.iadd, 1) := by decide +kernel
theorem dX2_settle_105 : decode cX2_settle 105 = .ok (.istore_n 3, 1) := by decide +kernel
theorem dX2_settle_106 : decode cX2_settle 106 = .ok (.iinc 4 1, 3) := by decide +kernel
theorem dX2_settle_109 : decode cX2_settle 109 = .ok (.goto (-102), 3) := by decide +kernel
theorem dX2_settle_112 : decode cX2_settle 112 = .ok (.iload_n 3, 1) := by decide +kernel
theorem dX2_settle_113 : decode cX2_settle 113 = .ok (.ireturn, 1) := by decide +kernel
theorem dX2_strongest_0 : decode cX2_strongest 0 = .ok (.iconst 0, 1) := by decide +kernel
theorem dX2_strongest_1 : decode cX2_strongest 1 = .ok (.istore_n 2, 1) := by decide +kernel
theorem dX2_strongest_2 : decode cX2_strongest 2 = .ok (.ldc 129, 2) := by decide +kernel
theorem dX2_strongest_4 : decode cX2_strongest 4 = .ok (.istore_n 3, 1) := by decide +kernel
theorem dX2_strongest_5 : decode cX2_strongest 5 = .ok (.iconst 0, 1) := by decide +kernel
theorem dX2_strongest_6 : decode cX2_strongest 6 = .ok (.istore 4, 2) := by decide +kernel
theorem dX2_strongest_8 : decode cX2_strongest 8 = .ok (.iload 4, 2) := by decide +kernel
theorem dX2_strongest_10 : decode cX2_strongest 10 = .ok (.aload_n 0, 1) := by decide +kernel
theorem dX2_strongest_11 : decode cX2_strongest 11 = .ok (.getfield 9, 3) := by decide +kernel
theorem dX2_strongest_14 : decode cX2_strongest 14 = .ok (.getfield 23, 3) := by decide +kernel
theorem dX2_strongest_17 : decode cX2_strongest 17 = .ok (.if_icmp .ge 46, 3) := by decide +kernel
theorem dX2_strongest_20 : decode cX2_strongest 20 = .ok (.iload_n 1, 1) := by decide +kernel
theorem dX2_strongest_21 : decode cX2_strongest 21 = .ok (.iload 4, 2) := by decide +kernel
theorem dX2_strongest_23 : decode cX2_strongest 23 = .ok (.iushr, 1) := by decide +kernel
theorem dX2_strongest_24 : decode cX2_strongest 24 = .ok (.iconst 1, 1) := by decide +kernel
theorem dX2_strongest_25 : decode cX2_strongest 25 = .ok (.iand, 1) := by decide +kernel
theorem dX2_strongest_26 : decode cX2_strongest 26 = .ok (.ifCond .eq 31, 3) := by decide +kernel
theorem dX2_strongest_29 : decode cX2_strongest 29 = .ok (.aload_n 0, 1) := by decide +kernel
theorem dX2_strongest_30 : decode cX2_strongest 30 = .ok (.getfield 9, 3) := by decide +kernel
theorem dX2_strongest_33 : decode cX2_strongest 33 = .ok (.getfield 91, 3) := by decide +kernel
theorem dX2_strongest_36 : decode cX2_strongest 36 = .ok (.iload 4, 2) := by decide +kernel
theorem dX2_strongest_38 : decode cX2_strongest 38 = .ok (.iaload, 1) := by decide +kernel
theorem dX2_strongest_39 : decode cX2_strongest 39 = .ok (.iload_n 3, 1) := by decide +kernel
theorem dX2_strongest_40 : decode cX2_strongest 40 = .ok (.if_icmp .ge 17, 3) := by decide +kernel
theorem dX2_strongest_43 : decode cX2_strongest 43 = .ok (.aload_n 0, 1) := by decide +kernel
theorem dX2_strongest_44 : decode cX2_strongest 44 = .ok (.getfield 9, 3) := by decide +kernel
theorem dX2_strongest_47 : decode cX2_strongest 47 = .ok (.getfield 91, 3) := by decide +kernel
theorem dX2_strongest_50 : decode cX2_strongest 50 = .ok (.iload 4, 2) := by decide +kernel
theorem dX2_strongest_52 : decode cX2_strongest 52 = .ok (.iaload, 1) := by decide +kernel
theorem dX2_strongest_53 : decode cX2_strongest 53 = .ok (.istore_n 3, 1) := by decide +kernel
theorem dX2_strongest_54 : decode cX2_strongest 54 = .ok (.iload 4, 2) := by decide +kernel
theorem dX2_strongest_56 : decode cX2_strongest 56 = .ok (.istore_n 2, 1) := by decide +kernel
theorem dX2_strongest_57 : decode cX2_strongest 57 = .ok (.iinc 4 1, 3) := by decide +kernel
theorem dX2_strongest_60 : decode cX2_strongest 60 = .ok (.goto (-52), 3) := by decide +kernel
theorem dX2_strongest_63 : decode cX2_strongest 63 = .ok (.iload_n 2, 1) := by decide +kernel
theorem dX2_strongest_64 : decode cX2_strongest 64 = .ok (.ireturn, 1) := by decide +kernel
theorem dX2_whomToPush_0 : decode cX2_whomToPush 0 = .ok (.aload_n 0, 1) := by decide +kernel
theorem dX2_whomToPush_1 : decode cX2_whomToPush 1 = .ok (.aload_n 0, 1) := by decide +kernel
theorem dX2_whomToPush_2 : decode cX2_whomToPush 2 = .ok (.getfield 19, 3) := by decide +kernel
theorem dX2_whomToPush_5 : decode cX2_whomToPush 5 = .ok (.getfield 29, 3) := by decide +kernel
theorem dX2_whomToPush_8 : decode cX2_whomToPush 8 = .ok (.iload_n 1, 1) := by decide +kernel
theorem dX2_whomToPush_9 : decode cX2_whomToPush 9 = .ok (.iaload, 1) := by decide +kernel
theorem dX2_whomToPush_10 : decode cX2_whomToPush 10 = .ok (.invokevirtual 130, 3) := by decide +kernel
theorem dX2_whomToPush_13 : decode cX2_whomToPush 13 = .ok (.istore_n 2, 1) := by decide +kernel
theorem dX2_whomToPush_14 : decode cX2_whomToPush 14 = .ok (.iload_n 2, 1) := by decide +kernel
theorem dX2_whomToPush_15 : decode cX2_whomToPush 15 = .ok (.ifCond .ne 5, 3) := by decide +kernel
theorem dX2_whomToPush_18 : decode cX2_whomToPush 18 = .ok (.iconst 0, 1) := by decide +kernel
theorem dX2_whomToPush_19 : decode cX2_whomToPush 19 = .ok (.ireturn, 1) := by decide +kernel
theorem dX2_whomToPush_20 : decode cX2_whomToPush 20 = .ok (.aload_n 0, 1) := by decide +kernel
theorem dX2_whomToPush_21 : decode cX2_whomToPush 21 = .ok (.iload_n 2, 1) := by decide +kernel
theorem dX2_whomToPush_22 : decode cX2_whomToPush 22 = .ok (.aload_n 0, 1) := by decide +kernel
theorem dX2_whomToPush_23 : decode cX2_whomToPush 23 = .ok (.getfield 9, 3) := by decide +kernel
theorem dX2_whomToPush_26 : decode cX2_whomToPush 26 = .ok (.getfield 91, 3) := by decide +kernel
theorem dX2_whomToPush_29 : decode cX2_whomToPush 29 = .ok (.iload_n 1, 1) := by decide +kernel
theorem dX2_whomToPush_30 : decode cX2_whomToPush 30 = .ok (.iaload, 1) := by decide +kernel
theorem dX2_whomToPush_31 : decode cX2_whomToPush 31 = .ok (.invokevirtual 133, 3) := by decide +kernel
theorem dX2_whomToPush_34 : decode cX2_whomToPush 34 = .ok (.istore_n 3, 1) := by decide +kernel
theorem dX2_whomToPush_35 : decode cX2_whomToPush 35 = .ok (.iconst 0, 1) := by decide +kernel
theorem dX2_whomToPush_36 : decode cX2_whomToPush 36 = .ok (.istore 4, 2) := by decide +kernel
theorem dX2_whomToPush_38 : decode cX2_whomToPush 38 = .ok (.iconst 0, 1) := by decide +kernel
theorem dX2_whomToPush_39 : decode cX2_whomToPush 39 = .ok (.istore 5, 2) := by decide +kernel
theorem dX2_whomToPush_41 : decode cX2_whomToPush 41 = .ok (.iconst 1, 1) := by decide +kernel
theorem dX2_whomToPush_42 : decode cX2_whomToPush 42 = .ok (.istore 6, 2) := by decide +kernel
theorem dX2_whomToPush_44 : decode cX2_whomToPush 44 = .ok (.iload 6, 2) := by decide +kernel
theorem dX2_whomToPush_46 : decode cX2_whomToPush 46 = .ok (.iload_n 3, 1) := by decide +kernel
theorem dX2_whomToPush_47 : decode cX2_whomToPush 47 = .ok (.if_icmp .gt 56, 3) := by decide +kernel
theorem dX2_whomToPush_50 : decode cX2_whomToPush 50 = .ok (.iload 6, 2) := by decide +kernel
theorem dX2_whomToPush_52 : decode cX2_whomToPush 52 = .ok (.iload_n 3, 1) := by decide +kernel
theorem dX2_whomToPush_53 : decode cX2_whomToPush 53 = .ok (.iconst (-1), 1) := by decide +kernel
theorem dX2_whomToPush_54 : decode cX2_whomToPush 54 = .ok (.ixor, 1) := by decide +kernel
theorem dX2_whomToPush_55 : decode cX2_whomToPush 55 = .ok (.iand, 1) := by decide +kernel
theorem dX2_whomToPush_56 : decode cX2_whomToPush 56 = .ok (.ifCond .ne 41, 3) := by decide +kernel
theorem dX2_whomToPush_59 : decode cX2_whomToPush 59 = .ok (.aload_n 0, 1) := by decide +kernel
theorem dX2_whomToPush_60 : decode cX2_whomToPush 60 = .ok (.iload 6, 2) := by decide +kernel
theorem dX2_whomToPush_62 : decode cX2_whomToPush 62 = .ok (.invokevirtual 137, 3) := by decide +kernel
theorem dX2_whomToPush_65 : decode cX2_whomToPush 65 = .ok (.istore 7, 2) := by decide +kernel
theorem dX2_whomToPush_67 : decode cX2_whomToPush 67 = .ok (.iload 4, 2) := by decide +kernel
theorem dX2_whomToPush_69 : decode cX2_whomToPush 69 = .ok (.ifCond .eq 10, 3) := by decide +kernel
theorem dX2_whomToPush_72 : decode cX2_whomToPush 72 = .ok (.iload 7, 2) := by decide +kernel
theorem dX2_whomToPush_74 : decode cX2_whomToPush 74 = .ok (.iload 5, 2) := by decide +kernel
theorem dX2_whomToPush_76 : decode cX2_whomToPush 76 = .ok (.if_icmp .ge 21, 3) := by decide +kernel
theorem dX2_whomToPush_79 : decode cX2_whomToPush 79 = .ok (.aload_n 0, 1) := by decide +kernel
theorem dX2_whomToPush_80 : decode cX2_whomToPush 80 = .ok (.iload 6, 2) := by decide +kernel
theorem dX2_whomToPush_82 : decode cX2_whomToPush 82 = .ok (.iload_n 2, 1) := by decide +kernel
theorem dX2_whomToPush_83 : decode cX2_whomToPush 83 = .ok (.invokevirtual 140, 3) := by decide +kernel
theorem dX2_whomToPush_86 : decode cX2_whomToPush 86 = .ok (.ifCond .eq 11, 3) := by decide +kernel
theorem dX2_whomToPush_89 : decode cX2_whomToPush 89 = .ok (.iload 7, 2) := by decide +kernel
theorem dX2_whomToPush_91 : decode cX2_whomToPush 91 = .ok (.istore 5, 2) := by decide +kernel
theorem dX2_whomToPush_93 : decode cX2_whomToPush 93 = .ok (.iload 6, 2) := by decide +kernel
theorem dX2_whomToPush_95 : decode cX2_whomToPush 95 = .ok (.istore 4, 2) := by decide +kernel
theorem dX2_whomToPush_97 : decode cX2_whomToPush 97 = .ok (.iinc 6 1, 3) := by decide +kernel
theorem dX2_whomToPush_100 : decode cX2_whomToPush 100 = .ok (.goto (-56), 3) := by decide +kernel
theorem dX2_whomToPush_103 : decode cX2_whomToPush 103 = .ok (.iload 4, 2) := by decide +kernel
theorem dX2_whomToPush_105 : decode cX2_whomToPush 105 = .ok (.ireturn, 1) := by decide +kernel
theorem dX2_overbooked_0 : decode cX2_overbooked 0 = .ok (.iconst 0, 1) := by decide +kernel
theorem dX2_overbooked_1 : decode cX2_overbooked 1 = .ok (.istore_n 2, 1) := by decide +kernel
theorem dX2_overbooked_2 : decode cX2_overbooked 2 = .ok (.iconst 0, 1) := by decide +kernel
theorem dX2_overbooked_3 : decode cX2_overbooked 3 = .ok (.istore_n 3, 1) := by decide +kernel
theorem dX2_overbooked_4 : decode cX2_overbooked 4 = .ok (.iload_n 3, 1) := by decide +kernel
theorem dX2_overbooked_5 : decode cX2_overbooked 5 = .ok (.aload_n 0, 1) := by decide +kernel
theorem dX2_overbooked_6 : decode cX2_overbooked 6 = .ok (.getfield 9, 3) := by decide +kernel
theorem dX2_overbooked_9 : decode cX2_overbooked 9 = .ok (.getfield 48, 3) := by decide +kernel
theorem dX2_overbooked_12 : decode cX2_overbooked 12 = .ok (.if_icmp .ge 34, 3) := by decide +kernel
theorem dX2_overbooked_15 : decode cX2_overbooked 15 = .ok (.iload_n 1, 1) := by decide +kernel
theorem dX2_overbooked_16 : decode cX2_overbooked 16 = .ok (.iload_n 3, 1) := by decide +kernel
theorem dX2_overbooked_17 : decode cX2_overbooked 17 = .ok (.iushr, 1) := by decide +kernel
theorem dX2_overbooked_18 : decode cX2_overbooked 18 = .ok (.iconst 1, 1) := by decide +kernel
theorem dX2_overbooked_19 : decode cX2_overbooked 19 = .ok (.iand, 1) := by decide +kernel
theorem dX2_overbooked_20 : decode cX2_overbooked 20 = .ok (.ifCond .eq 20, 3) := by decide +kernel
theorem dX2_overbooked_23 : decode cX2_overbooked 23 = .ok (.aload_n 0, 1) := by decide +kernel
theorem dX2_overbooked_24 : decode cX2_overbooked 24 = .ok (.iconst (-1), 1) := by decide +kernel
theorem dX2_overbooked_25 : decode cX2_overbooked 25 = .ok (.iload_n 3, 1) := by decide +kernel
theorem dX2_overbooked_26 : decode cX2_overbooked 26 = .ok (.bipush 7, 2) := by decide +kernel
theorem dX2_overbooked_28 : decode cX2_overbooked 28 = .ok (.invokevirtual 38, 3) := by decide +kernel
theorem dX2_overbooked_31 : decode cX2_overbooked 31 = .ok (.ifCond .ge 9, 3) := by decide +kernel
theorem dX2_overbooked_34 : decode cX2_overbooked 34 = .ok (.iload_n 2, 1) := by decide +kernel
theorem dX2_overbooked_35 : decode cX2_overbooked 35 = .ok (.iconst 1, 1) := by decide +kernel
theorem dX2_overbooked_36 : decode cX2_overbooked 36 = .ok (.iload_n 3, 1) := by decide +kernel
theorem dX2_overbooked_37 : decode cX2_overbooked 37 = .ok (.ishl, 1) := by decide +kernel
theorem dX2_overbooked_38 : decode cX2_overbooked 38 = .ok (.ior, 1) := by decide +kernel
theorem dX2_overbooked_39 : decode cX2_overbooked 39 = .ok (.istore_n 2, 1) := by decide +kernel
theorem dX2_overbooked_40 : decode cX2_overbooked 40 = .ok (.iinc 3 1, 3) := by decide +kernel
theorem dX2_overbooked_43 : decode cX2_overbooked 43 = .ok (.goto (-39), 3) := by decide +kernel
theorem dX2_overbooked_46 : decode cX2_overbooked 46 = .ok (.iload_n 2, 1) := by decide +kernel
theorem dX2_overbooked_47 : decode cX2_overbooked 47 = .ok (.ireturn, 1) := by decide +kernel
theorem dX2_weakerOn_0 : decode cX2_weakerOn 0 = .ok (.iconst 0, 1) := by decide +kernel
theorem dX2_weakerOn_1 : decode cX2_weakerOn 1 = .ok (.istore_n 3, 1) := by decide +kernel
theorem dX2_weakerOn_2 : decode cX2_weakerOn 2 = .ok (.iconst 0, 1) := by decide +kernel
theorem dX2_weakerOn_3 : decode cX2_weakerOn 3 = .ok (.istore 4, 2) := by decide +kernel
theorem dX2_weakerOn_5 : decode cX2_weakerOn 5 = .ok (.iload 4, 2) := by decide +kernel
theorem dX2_weakerOn_7 : decode cX2_weakerOn 7 = .ok (.aload_n 0, 1) := by decide +kernel
theorem dX2_weakerOn_8 : decode cX2_weakerOn 8 = .ok (.getfield 9, 3) := by decide +kernel
theorem dX2_weakerOn_11 : decode cX2_weakerOn 11 = .ok (.getfield 23, 3) := by decide +kernel
theorem dX2_weakerOn_14 : decode cX2_weakerOn 14 = .ok (.if_icmp .ge 45, 3) := by decide +kernel
theorem dX2_weakerOn_17 : decode cX2_weakerOn 17 = .ok (.aload_n 0, 1) := by decide +kernel
theorem dX2_weakerOn_18 : decode cX2_weakerOn 18 = .ok (.getfield 9, 3) := by decide +kernel
theorem dX2_weakerOn_21 : decode cX2_weakerOn 21 = .ok (.getfield 42, 3) := by decide +kernel
theorem dX2_weakerOn_24 : decode cX2_weakerOn 24 = .ok (.iload 4, 2) := by decide +kernel
theorem dX2_weakerOn_26 : decode cX2_weakerOn 26 = .ok (.iaload, 1) := by decide +kernel
theorem dX2_weakerOn_27 : decode cX2_weakerOn 27 = .ok (.iload_n 2, 1) := by decide +kernel
theorem dX2_weakerOn_28 : decode cX2_weakerOn 28 = .ok (.if_icmp .le 25, 3) := by decide +kernel
theorem dX2_weakerOn_31 : decode cX2_weakerOn 31 = .ok (.aload_n 0, 1) := by decide +kernel
theorem dX2_weakerOn_32 : decode cX2_weakerOn 32 = .ok (.getfield 19, 3) := by decide +kernel
theorem dX2_weakerOn_35 : decode cX2_weakerOn 35 = .ok (.getfield 29, 3) := by decide +kernel
theorem dX2_weakerOn_38 : decode cX2_weakerOn 38 = .ok (.iload 4, 2) := by decide +kernel
theorem dX2_weakerOn_40 : decode cX2_weakerOn 40 = .ok (.iaload, 1) := by decide +kernel
theorem dX2_weakerOn_41 : decode cX2_weakerOn 41 = .ok (.iload_n 1, 1) := by decide +kernel
theorem dX2_weakerOn_42 : decode cX2_weakerOn 42 = .ok (.iand, 1) := by decide +kernel
theorem dX2_weakerOn_43 : decode cX2_weakerOn 43 = .ok (.ifCond .eq 10, 3) := by decide +kernel
theorem dX2_weakerOn_46 : decode cX2_weakerOn 46 = .ok (.iload_n 3, 1) := by decide +kernel
theorem dX2_weakerOn_47 : decode cX2_weakerOn 47 = .ok (.iconst 1, 1) := by decide +kernel
theorem dX2_weakerOn_48 : decode cX2_weakerOn 48 = .ok (.iload 4, 2) := by decide +kernel
theorem dX2_weakerOn_50 : decode cX2_weakerOn 50 = .ok (.ishl, 1) := by decide +kernel
theorem dX2_weakerOn_51 : decode cX2_weakerOn 51 = .ok (.ior, 1) := by decide +kernel
theorem dX2_weakerOn_52 : decode cX2_weakerOn 52 = .ok (.istore_n 3, 1) := by decide +kernel
theorem dX2_weakerOn_53 : decode cX2_weakerOn 53 = .ok (.iinc 4 1, 3) := by decide +kernel
theorem dX2_weakerOn_56 : decode cX2_weakerOn 56 = .ok (.goto (-51), 3) := by decide +kernel
theorem dX2_weakerOn_59 : decode cX2_weakerOn 59 = .ok (.iload_n 3, 1) := by decide +kernel
theorem dX2_weakerOn_60 : decode cX2_weakerOn 60 = .ok (.ireturn, 1) := by decide +kernel
theorem dX2_costOf_0 : decode cX2_costOf 0 = .ok (.iconst 0, 1) := by decide +kernel
theorem dX2_costOf_1 : decode cX2_costOf 1 = .ok (.istore_n 2, 1) := by decide +kernel
theorem dX2_costOf_2 : decode cX2_costOf 2 = .ok (.iconst 0, 1) := by decide +kernel
theorem dX2_costOf_3 : decode cX2_costOf 3 = .ok (.istore_n 3, 1) := by decide +kernel
theorem dX2_costOf_4 : decode cX2_costOf 4 = .ok (.iload_n 3, 1) := by decide +kernel
theorem dX2_costOf_5 : decode cX2_costOf 5 = .ok (.aload_n 0, 1) := by decide +kernel
theorem dX2_costOf_6 : decode cX2_costOf 6 = .ok (.getfield 9, 3) := by decide +kernel
theorem dX2_costOf_9 : decode cX2_costOf 9 = .ok (.getfield 23, 3) := by decide +kernel
theorem dX2_costOf_12 : decode cX2_costOf 12 = .ok (.if_icmp .ge 55, 3) := by decide +kernel
theorem dX2_costOf_15 : decode cX2_costOf 15 = .ok (.iload_n 1, 1) := by decide +kernel
theorem dX2_costOf_16 : decode cX2_costOf 16 = .ok (.iload_n 3, 1) := by decide +kernel
theorem dX2_costOf_17 : decode cX2_costOf 17 = .ok (.iushr, 1) := by decide +kernel
theorem dX2_costOf_18 : decode cX2_costOf 18 = .ok (.iconst 1, 1) := by decide +kernel
theorem dX2_costOf_19 : decode cX2_costOf 19 = .ok (.iand, 1) := by decide +kernel
theorem dX2_costOf_20 : decode cX2_costOf 20 = .ok (.ifCond .eq 41, 3) := by decide +kernel
theorem dX2_costOf_23 : decode cX2_costOf 23 = .ok (.bipush 8, 2) := by decide +kernel
theorem dX2_costOf_25 : decode cX2_costOf 25 = .ok (.aload_n 0, 1) := by decide +kernel
theorem dX2_costOf_26 : decode cX2_costOf 26 = .ok (.getfield 9, 3) := by decide +kernel
theorem dX2_costOf_29 : decode cX2_costOf 29 = .ok (.getfield 42, 3) := by decide +kernel
theorem dX2_costOf_32 : decode cX2_costOf 32 = .ok (.iload_n 3, 1) := by decide +kernel
theorem dX2_costOf_33 : decode cX2_costOf 33 = .ok (.iaload, 1) := by decide +kernel
theorem dX2_costOf_34 : decode cX2_costOf 34 = .ok (.isub, 1) := by decide +kernel
theorem dX2_costOf_35 : decode cX2_costOf 35 = .ok (.istore 4, 2) := by decide +kernel
theorem dX2_costOf_37 : decode cX2_costOf 37 = .ok (.iload_n 2, 1) := by decide +kernel
theorem dX2_costOf_38 : decode cX2_costOf 38 = .ok (.iload 4, 2) := by decide +kernel
theorem dX2_costOf_40 : decode cX2_costOf 40 = .ok (.bipush 16, 2) := by decide +kernel
theorem dX2_costOf_42 : decode cX2_costOf 42 = .ok (.imul, 1) := by decide +kernel
theorem dX2_costOf_43 : decode cX2_costOf 43 = .ok (.iconst 1, 1) := by decide +kernel
theorem dX2_costOf_44 : decode cX2_costOf 44 = .ok (.iadd, 1) := by decide +kernel
theorem dX2_costOf_45 : decode cX2_costOf 45 = .ok (.sipush 1000, 3) := by decide +kernel
theorem dX2_costOf_48 : decode cX2_costOf 48 = .ok (.imul, 1) := by decide +kernel
theorem dX2_costOf_49 : decode cX2_costOf 49 = .ok (.aload_n 0, 1) := by decide +kernel
theorem dX2_costOf_50 : decode cX2_costOf 50 = .ok (.getfield 19, 3) := by decide +kernel
theorem dX2_costOf_53 : decode cX2_costOf 53 = .ok (.getfield 45, 3) := by decide +kernel
theorem dX2_costOf_56 : decode cX2_costOf 56 = .ok (.iload_n 3, 1) := by decide +kernel
theorem dX2_costOf_57 : decode cX2_costOf 57 = .ok (.iaload, 1) := by decide +kernel
theorem dX2_costOf_58 : decode cX2_costOf 58 = .ok (.iadd, 1) := by decide +kernel
theorem dX2_costOf_59 : decode cX2_costOf 59 = .ok (.iadd, 1) := by decide +kernel
theorem dX2_costOf_60 : decode cX2_costOf 60 = .ok (.istore_n 2, 1) := by decide +kernel
theorem dX2_costOf_61 : decode cX2_costOf 61 = .ok (.iinc 3 1, 3) := by decide +kernel
theorem dX2_costOf_64 : decode cX2_costOf 64 = .ok (.goto (-60), 3) := by decide +kernel
theorem dX2_costOf_67 : decode cX2_costOf 67 = .ok (.iload_n 2, 1) := by decide +kernel
theorem dX2_costOf_68 : decode cX2_costOf 68 = .ok (.ireturn, 1) := by decide +kernel
theorem dX2_relieves_0 : decode cX2_relieves 0 = .ok (.iconst 0, 1) := by decide +kernel
theorem dX2_relieves_1 : decode cX2_relieves 1 = .ok (.istore_n 3, 1) := by decide +kernel
theorem dX2_relieves_2 : decode cX2_relieves 2 = .ok (.iload_n 3, 1) := by decide +kernel
theorem dX2_relieves_3 : decode cX2_relieves 3 = .ok (.aload_n 0, 1) := by decide +kernel
theorem dX2_relieves_4 : decode cX2_relieves 4 = .ok (.getfield 9, 3) := by decide +kernel
theorem dX2_relieves_7 : decode cX2_relieves 7 = .ok (.getfield 48, 3) := by decide +kernel
theorem dX2_relieves_10 : decode cX2_relieves 10 = .ok (.if_icmp .ge 92, 3) := by decide +kernel
theorem dX2_relieves_13 : decode cX2_relieves 13 = .ok (.iload_n 2, 1) := by decide +kernel
theorem dX2_relieves_14 : decode cX2_relieves 14 = .ok (.iload_n 3, 1) := by decide +kernel
theorem dX2_relieves_15 : decode cX2_relieves 15 = .ok (.iushr, 1) := by decide +kernel
theorem dX2_relieves_16 : decode cX2_relieves 16 = .ok (.iconst 1, 1) := by decide +kernel
theorem dX2_relieves_17 : decode cX2_relieves 17 = .ok (.iand, 1) := by decide +kernel
theorem dX2_relieves_18 : decode cX2_relieves 18 = .ok (.ifCond .eq 78, 3) := by decide +kernel
theorem dX2_relieves_21 : decode cX2_relieves 21 = .ok (.aload_n 0, 1) := by decide +kernel
theorem dX2_relieves_22 : decode cX2_relieves 22 = .ok (.iconst (-1), 1) := by decide +kernel
theorem dX2_relieves_23 : decode cX2_relieves 23 = .ok (.iload_n 3, 1) := by decide +kernel
theorem dX2_relieves_24 : decode cX2_relieves 24 = .ok (.bipush 7, 2) := by decide +kernel
theorem dX2_relieves_26 : decode cX2_relieves 26 = .ok (.invokevirtual 38, 3) := by decide +kernel
theorem dX2_relieves_29 : decode cX2_relieves 29 = .ok (.istore 4, 2) := by decide +kernel
theorem dX2_relieves_31 : decode cX2_relieves 31 = .ok (.iconst 0, 1) := by decide +kernel
theorem dX2_relieves_32 : decode cX2_relieves 32 = .ok (.istore 5, 2) := by decide +kernel
theorem dX2_relieves_34 : decode cX2_relieves 34 = .ok (.iload 5, 2) := by decide +kernel
theorem dX2_relieves_36 : decode cX2_relieves 36 = .ok (.aload_n 0, 1) := by decide +kernel
theorem dX2_relieves_37 : decode cX2_relieves 37 = .ok (.getfield 9, 3) := by decide +kernel
theorem dX2_relieves_40 : decode cX2_relieves 40 = .ok (.getfield 23, 3) := by decide +kernel
theorem dX2_relieves_43 : decode cX2_relieves 43 = .ok (.if_icmp .ge 46, 3) := by decide +kernel
theorem dX2_relieves_46 : decode cX2_relieves 46 = .ok (.iload_n 1, 1) := by decide +kernel
theorem dX2_relieves_47 : decode cX2_relieves 47 = .ok (.iload 5, 2) := by decide +kernel
theorem dX2_relieves_49 : decode cX2_relieves 49 = .ok (.iushr, 1) := by decide +kernel
theorem dX2_relieves_50 : decode cX2_relieves 50 = .ok (.aload_n 0, 1) := by decide +kernel
theorem dX2_relieves_51 : decode cX2_relieves 51 = .ok (.getfield 19, 3) := by decide +kernel
theorem dX2_relieves_54 : decode cX2_relieves 54 = .ok (.getfield 29, 3) := by decide +kernel
theorem dX2_relieves_57 : decode cX2_relieves 57 = .ok (.iload 5, 2) := by decide +kernel
theorem dX2_relieves_59 : decode cX2_relieves 59 = .ok (.iaload, 1) := by decide +kernel
theorem dX2_relieves_60 : decode cX2_relieves 60 = .ok (.iload_n 3, 1) := by decide +kernel
theorem dX2_relieves_61 : decode cX2_relieves 61 = .ok (.iushr, 1) := by decide +kernel
theorem dX2_relieves_62 : decode cX2_relieves 62 = .ok (.iand, 1) := by decide +kernel
theorem dX2_relieves_63 : decode cX2_relieves 63 = .ok (.iconst 1, 1) := by decide +kernel
theorem dX2_relieves_64 : decode cX2_relieves 64 = .ok (.iand, 1) := by decide +kernel
theorem dX2_relieves_65 : decode cX2_relieves 65 = .ok (.ifCond .eq 18, 3) := by decide +kernel
theorem dX2_relieves_68 : decode cX2_relieves 68 = .ok (.iload 4, 2) := by decide +kernel
theorem dX2_relieves_70 : decode cX2_relieves 70 = .ok (.aload_n 0, 1) := by decide +kernel
theorem dX2_relieves_71 : decode cX2_relieves 71 = .ok (.getfield 19, 3) := by decide +kernel
theorem dX2_relieves_74 : decode cX2_relieves 74 = .ok (.getfield 45, 3) := by decide +kernel
theorem dX2_relieves_77 : decode cX2_relieves 77 = .ok (.iload 5, 2) := by decide +kernel
theorem dX2_relieves_79 : decode cX2_relieves 79 = .ok (.iaload, 1) := by decide +kernel
theorem dX2_relieves_80 : decode cX2_relieves 80 = .ok (.iadd, 1) := by decide +kernel
theorem dX2_relieves_81 : decode cX2_relieves 81 = .ok (.istore 4, 2) := by decide +kernel
theorem dX2_relieves_83 : decode cX2_relieves 83 = .ok (.iinc 5 1, 3) := by decide +kernel
theorem dX2_relieves_86 : decode cX2_relieves 86 = .ok (.goto (-52), 3) := by decide +kernel
theorem dX2_relieves_89 : decode cX2_relieves 89 = .ok (.iload 4, 2) := by decide +kernel
theorem dX2_relieves_91 : decode cX2_relieves 91 = .ok (.ifCond .ge 5, 3) := by decide +kernel
theorem dX2_relieves_94 : decode cX2_relieves 94 = .ok (.iconst 0, 1) := by decide +kernel
theorem dX2_relieves_95 : decode cX2_relieves 95 = .ok (.ireturn, 1) := by decide +kernel
theorem dX2_relieves_96 : decode cX2_relieves 96 = .ok (.iinc 3 1, 3) := by decide +kernel
theorem dX2_relieves_99 : decode cX2_relieves 99 = .ok (.goto (-97), 3) := by decide +kernel
theorem dX2_relieves_102 : decode cX2_relieves 102 = .ok (.iconst 1, 1) := by decide +kernel
theorem dX2_relieves_103 : decode cX2_relieves 103 = .ok (.ireturn, 1) := by decide +kernel
theorem dX3_init_0 : decode cX3_init 0 = .ok (.aload_n 0, 1) := by decide +kernel
theorem dX3_init_1 : decode cX3_init 1 = .ok (.invokespecial 3, 3) := by decide +kernel
theorem dX3_init_4 : decode cX3_init 4 = .ok (.aload_n 0, 1) := by decide +kernel
theorem dX3_init_5 : decode cX3_init 5 = .ok (.new 9, 3) := by decide +kernel
theorem dX3_init_8 : decode cX3_init 8 = .ok (.dup, 1) := by decide +kernel
theorem dX3_init_9 : decode cX3_init 9 = .ok (.invokespecial 11, 3) := by decide +kernel
theorem dX3_init_12 : decode cX3_init 12 = .ok (.putfield 12, 3) := by decide +kernel
theorem dX3_init_15 : decode cX3_init 15 = .ok (.aload_n 0, 1) := by decide +kernel
theorem dX3_init_16 : decode cX3_init 16 = .ok (.bipush 16, 2) := by decide +kernel
theorem dX3_init_18 : decode cX3_init 18 = .ok (.newarray .int, 2) := by decide +kernel
theorem dX3_init_20 : decode cX3_init 20 = .ok (.putfield 18, 3) := by decide +kernel
theorem dX3_init_23 : decode cX3_init 23 = .ok (.aload_n 0, 1) := by decide +kernel
theorem dX3_init_24 : decode cX3_init 24 = .ok (.bipush 9, 2) := by decide +kernel
theorem dX3_init_26 : decode cX3_init 26 = .ok (.newarray .int, 2) := by decide +kernel
theorem dX3_init_28 : decode cX3_init 28 = .ok (.putfield 22, 3) := by decide +kernel
theorem dX3_init_31 : decode cX3_init 31 = .ok (.aload_n 0, 1) := by decide +kernel
theorem dX3_init_32 : decode cX3_init 32 = .ok (.sipush 512, 3) := by decide +kernel
theorem dX3_init_35 : decode cX3_init 35 = .ok (.newarray .int, 2) := by decide +kernel
theorem dX3_init_37 : decode cX3_init 37 = .ok (.putfield 25, 3) := by decide +kernel
theorem dX3_init_40 : decode cX3_init 40 = .ok (.aload_n 0, 1) := by decide +kernel
theorem dX3_init_41 : decode cX3_init 41 = .ok (.aload_n 1, 1) := by decide +kernel
theorem dX3_init_42 : decode cX3_init 42 = .ok (.putfield 28, 3) := by decide +kernel
theorem dX3_init_45 : decode cX3_init 45 = .ok (.aload_n 0, 1) := by decide +kernel
theorem dX3_init_46 : decode cX3_init 46 = .ok (.aload_n 3, 1) := by decide +kernel
theorem dX3_init_47 : decode cX3_init 47 = .ok (.putfield 32, 3) := by decide +kernel
theorem dX3_init_50 : decode cX3_init 50 = .ok (.aload_n 0, 1) := by decide +kernel
theorem dX3_init_51 : decode cX3_init 51 = .ok (.aload_n 3, 1) := by decide +kernel
theorem dX3_init_52 : decode cX3_init 52 = .ok (.getfield 36, 3) := by decide +kernel
theorem dX3_init_55 : decode cX3_init 55 = .ok (.putfield 41, 3) := by decide +kernel
theorem dX3_init_58 : decode cX3_init 58 = .ok (.aload_n 0, 1) := by decide +kernel
theorem dX3_init_59 : decode cX3_init 59 = .ok (.new 37, 3) := by decide +kernel
theorem dX3_init_62 : decode cX3_init 62 = .ok (.dup, 1) := by decide +kernel
theorem dX3_init_63 : decode cX3_init 63 = .ok (.aload_n 1, 1) := by decide +kernel
theorem dX3_init_64 : decode cX3_init 64 = .ok (.aload_n 2, 1) := by decide +kernel
theorem dX3_init_65 : decode cX3_init 65 = .ok (.aload_n 0, 1) := by decide +kernel
theorem dX3_init_66 : decode cX3_init 66 = .ok (.getfield 12, 3) := by decide +kernel
theorem dX3_init_69 : decode cX3_init 69 = .ok (.invokespecial 42, 3) := by decide +kernel
theorem dX3_init_72 : decode cX3_init 72 = .ok (.putfield 45, 3) := by decide +kernel
theorem dX3_init_75 : decode cX3_init 75 = .ok (.return_, 1) := by decide +kernel
theorem dX3_plannedWay_0 : decode cX3_plannedWay 0 = .ok (.aload_n 0, 1) := by decide +kernel
theorem dX3_plannedWay_1 : decode cX3_plannedWay 1 = .ok (.getfield 12, 3) := by decide +kernel
theorem dX3_plannedWay_4 : decode cX3_plannedWay 4 = .ok (.getfield 48, 3) := by decide +kernel
theorem dX3_plannedWay_7 : decode cX3_plannedWay 7 = .ok (.iload_n 1, 1) := by decide +kernel
theorem dX3_plannedWay_8 : decode cX3_plannedWay 8 = .ok (.iaload, 1) := by decide +kernel
theorem dX3_plannedWay_9 : decode cX3_plannedWay 9 = .ok (.ireturn, 1) := by decide +kernel
theorem dX3_makePlan_0 : decode cX3_makePlan 0 = .ok (.aload_n 0, 1) := by decide +kernel
theorem dX3_makePlan_1 : decode cX3_makePlan 1 = .ok (.getfield 12, 3) := by decide +kernel
theorem dX3_makePlan_4 : decode cX3_makePlan 4 = .ok (.aload_n 0, 1) := by decide +kernel
theorem dX3_makePlan_5 : decode cX3_makePlan 5 = .ok (.getfield 41, 3) := by decide +kernel
theorem dX3_makePlan_8 : decode cX3_makePlan 8 = .ok (.invokevirtual 51, 3) := by decide +kernel
theorem dX3_makePlan_11 : decode cX3_makePlan 11 = .ok (.aload_n 0, 1) := by decide +kernel
theorem dX3_makePlan_12 : decode cX3_makePlan 12 = .ok (.getfield 45, 3) := by decide +kernel
theorem dX3_makePlan_15 : decode cX3_makePlan 15 = .ok (.sipush 511, 3) := by decide +kernel
theorem dX3_makePlan_18 : decode cX3_makePlan 18 = .ok (.invokevirtual 55, 3) := by decide +kernel
theorem dX3_makePlan_21 : decode cX3_makePlan 21 = .ok (.iconst 1, 1) := by decide +kernel
theorem dX3_makePlan_22 : decode cX3_makePlan 22 = .ok (.aload_n 0, 1) := by decide +kernel
theorem dX3_makePlan_23 : decode cX3_makePlan 23 = .ok (.getfield 28, 3) := by decide +kernel
theorem dX3_makePlan_26 : decode cX3_makePlan 26 = .ok (.getfield 59, 3) := by decide +kernel
theorem dX3_makePlan_29 : decode cX3_makePlan 29 = .ok (.ishl, 1) := by decide +kernel
theorem dX3_makePlan_30 : decode cX3_makePlan 30 = .ok (.iconst 1, 1) := by decide +kernel
theorem dX3_makePlan_31 : decode cX3_makePlan 31 = .ok (.isub, 1) := by decide +kernel
theorem dX3_makePlan_32 : decode cX3_makePlan 32 = .ok (.istore_n 1, 1) := by decide +kernel
theorem dX3_makePlan_33 : decode cX3_makePlan 33 = .ok (.iconst 0, 1) := by decide +kernel
theorem dX3_makePlan_34 : decode cX3_makePlan 34 = .ok (.istore_n 2, 1) := by decide +kernel
theorem dX3_makePlan_35 : decode cX3_makePlan 35 = .ok (.iload_n 2, 1) := by decide +kernel
theorem dX3_makePlan_36 : decode cX3_makePlan 36 = .ok (.aload_n 0, 1) := by decide +kernel
theorem dX3_makePlan_37 : decode cX3_makePlan 37 = .ok (.getfield 28, 3) := by decide +kernel
theorem dX3_makePlan_40 : decode cX3_makePlan 40 = .ok (.getfield 59, 3) := by decide +kernel
theorem dX3_makePlan_43 : decode cX3_makePlan 43 = .ok (.if_icmp .ge 51, 3) := by decide +kernel
theorem dX3_makePlan_46 : decode cX3_makePlan 46 = .ok (.aload_n 0, 1) := by decide +kernel
theorem dX3_makePlan_47 : decode cX3_makePlan 47 = .ok (.iload_n 1, 1) := by decide +kernel
theorem dX3_makePlan_48 : decode cX3_makePlan 48 = .ok (.invokevirtual 65, 3) := by decide +kernel
theorem dX3_makePlan_51 : decode cX3_makePlan 51 = .ok (.istore_n 3, 1) := by decide +kernel
theorem dX3_makePlan_52 : decode cX3_makePlan 52 = .ok (.iload_n 1, 1) := by decide +kernel
theorem dX3_makePlan_53 : decode cX3_makePlan 53 = .ok (.iconst 1, 1) := by decide +kernel
theorem dX3_makePlan_54 : decode cX3_makePlan 54 = .ok (.iload_n 3, 1) := by decide +kernel
theorem dX3_makePlan_55 : decode cX3_makePlan 55 = .ok (.ishl, 1) := by decide +kernel
theorem dX3_makePlan_56 : decode cX3_makePlan 56 = .ok (.iconst (-1), 1) := by decide +kernel
theorem dX3_makePlan_57 : decode cX3_makePlan 57 = .ok (.ixor, 1) := by decide +kernel
theorem dX3_makePlan_58 : decode cX3_makePlan 58 = .ok (.iand, 1) := by decide +kernel
theorem dX3_makePlan_59 : decode cX3_makePlan 59 = .ok (.istore_n 1, 1) := by decide +kernel
theorem dX3_makePlan_60 : decode cX3_makePlan 60 = .ok (.aload_n 0, 1) := by decide +kernel
theorem dX3_makePlan_61 : decode cX3_makePlan 61 = .ok (.getfield 12, 3) := by decide +kernel
theorem dX3_makePlan_64 : decode cX3_makePlan 64 = .ok (.getfield 48, 3) := by decide +kernel
theorem dX3_makePlan_67 : decode cX3_makePlan 67 = .ok (.iload_n 3, 1) := by decide +kernel
theorem dX3_makePlan_68 : decode cX3_makePlan 68 = .ok (.aload_n 0, 1) := by decide +kernel
theorem dX3_makePlan_69 : decode cX3_makePlan 69 = .ok (.getfield 45, 3) := by decide +kernel
theorem dX3_makePlan_72 : decode cX3_makePlan 72 = .ok (.iload_n 3, 1) := by decide +kernel
theorem dX3_makePlan_73 : decode cX3_makePlan 73 = .ok (.aload_n 0, 1) := by decide +kernel
theorem dX3_makePlan_74 : decode cX3_makePlan 74 = .ok (.getfield 41, 3) := by decide +kernel
theorem dX3_makePlan_77 : decode cX3_makePlan 77 = .ok (.getfield 69, 3) := by decide +kernel
theorem dX3_makePlan_80 : decode cX3_makePlan 80 = .ok (.iload_n 3, 1) := by decide +kernel
theorem dX3_makePlan_81 : decode cX3_makePlan 81 = .ok (.iaload, 1) := by decide +kernel
theorem dX3_makePlan_82 : decode cX3_makePlan 82 = .ok (.bipush 7, 2) := by decide +kernel
theorem dX3_makePlan_84 : decode cX3_makePlan 84 = .ok (.invokevirtual 72, 3) := by decide +kernel
theorem dX3_makePlan_87 : decode cX3_makePlan 87 = .ok (.iastore, 1) := by decide +kernel
theorem dX3_makePlan_88 : decode cX3_makePlan 88 = .ok (.iinc 2 1, 3) := by decide +kernel
theorem dX3_makePlan_91 : decode cX3_makePlan 91 = .ok (.goto (-56), 3) := by decide +kernel
theorem dX3_makePlan_94 : decode cX3_makePlan 94 = .ok (.return_, 1) := by decide +kernel
theorem dX3_firstOf_0 : decode cX3_firstOf 0 = .ok (.iconst 0, 1) := by decide +kernel
theorem dX3_firstOf_1 : decode cX3_firstOf 1 = .ok (.istore_n 2, 1) := by decide +kernel
theorem dX3_firstOf_2 : decode cX3_firstOf 2 = .ok (.ldc 76, 2) := by decide +kernel
theorem dX3_firstOf_4 : decode cX3_firstOf 4 = .ok (.istore_n 3, 1) := by decide +kernel
theorem dX3_firstOf_5 : decode cX3_firstOf 5 = .ok (.iconst 0, 1) := by decide +kernel
theorem dX3_firstOf_6 : decode cX3_firstOf 6 = .ok (.istore 4, 2) := by decide +kernel
theorem dX3_firstOf_8 : decode cX3_firstOf 8 = .ok (.iload 4, 2) := by decide +kernel
theorem dX3_firstOf_10 : decode cX3_firstOf 10 = .ok (.aload_n 0, 1) := by decide +kernel
theorem dX3_firstOf_11 : decode cX3_firstOf 11 = .ok (.getfield 28, 3) := by decide +kernel
theorem dX3_firstOf_14 : decode cX3_firstOf 14 = .ok (.getfield 59, 3) := by decide +kernel
theorem dX3_firstOf_17 : decode cX3_firstOf 17 = .ok (.if_icmp .ge 56, 3) := by decide +kernel
theorem dX3_firstOf_20 : decode cX3_firstOf 20 = .ok (.aload_n 0, 1) := by decide +kernel
theorem dX3_firstOf_21 : decode cX3_firstOf 21 = .ok (.getfield 28, 3) := by decide +kernel
theorem dX3_firstOf_24 : decode cX3_firstOf 24 = .ok (.getfield 77, 3) := by decide +kernel
theorem dX3_firstOf_27 : decode cX3_firstOf 27 = .ok (.iload 4, 2) := by decide +kernel
theorem dX3_firstOf_29 : decode cX3_firstOf 29 = .ok (.iaload, 1) := by decide +kernel
theorem dX3_firstOf_30 : decode cX3_firstOf 30 = .ok (.bipush 8, 2) := by decide +kernel
theorem dX3_firstOf_32 : decode cX3_firstOf 32 = .ok (.imul, 1) := by decide +kernel
theorem dX3_firstOf_33 : decode cX3_firstOf 33 = .ok (.aload_n 0, 1) := by decide +kernel
theorem dX3_firstOf_34 : decode cX3_firstOf 34 = .ok (.getfield 28, 3) := by decide +kernel
theorem dX3_firstOf_37 : decode cX3_firstOf 37 = .ok (.getfield 80, 3) := by decide +kernel
theorem dX3_firstOf_40 : decode cX3_firstOf 40 = .ok (.iload 4, 2) := by decide +kernel
theorem dX3_firstOf_42 : decode cX3_firstOf 42 = .ok (.iaload, 1) := by decide +kernel
theorem dX3_firstOf_43 : decode cX3_firstOf 43 = .ok (.iadd, 1) := by decide +kernel
theorem dX3_firstOf_44 : decode cX3_firstOf 44 = .ok (.istore 5, 2) := by decide +kernel
theorem dX3_firstOf_46 : decode cX3_firstOf 46 = .ok (.iload_n 1, 1) := by decide +kernel
theorem dX3_firstOf_47 : decode cX3_firstOf 47 = .ok (.iload 4, 2) := by decide +kernel
theorem dX3_firstOf_49 : decode cX3_firstOf 49 = .ok (.iushr, 1) := by decide +kernel
theorem dX3_firstOf_50 : decode cX3_firstOf 50 = .ok (.iconst 1, 1) := by decide +kernel
theorem dX3_firstOf_51 : decode cX3_firstOf 51 = .ok (.iand, 1) := by decide +kernel
theorem dX3_firstOf_52 : decode cX3_firstOf 52 = .ok (.ifCond .eq 15, 3) := by decide +kernel
theorem dX3_firstOf_55 : decode cX3_firstOf 55 = .ok (.iload 5, 2) := by decide +kernel
theorem dX3_firstOf_57 : decode cX3_firstOf 57 = .ok (.iload_n 3, 1) := by decide +kernel
theorem dX3_firstOf_58 : decode cX3_firstOf 58 = .ok (.if_icmp .ge 9, 3) := by decide +kernel
theorem dX3_firstOf_61 : decode cX3_firstOf 61 = .ok (.iload 5, 2) := by decide +kernel
theorem dX3_firstOf_63 : decode cX3_firstOf 63 = .ok (.istore_n 3, 1) := by decide +kernel
theorem dX3_firstOf_64 : decode cX3_firstOf 64 = .ok (.iload 4, 2) := by decide +kernel
theorem dX3_firstOf_66 : decode cX3_firstOf 66 = .ok (.istore_n 2, 1) := by decide +kernel
theorem dX3_firstOf_67 : decode cX3_firstOf 67 = .ok (.iinc 4 1, 3) := by decide +kernel
theorem dX3_firstOf_70 : decode cX3_firstOf 70 = .ok (.goto (-62), 3) := by decide +kernel
theorem dX3_firstOf_73 : decode cX3_firstOf 73 = .ok (.iload_n 2, 1) := by decide +kernel
theorem dX3_firstOf_74 : decode cX3_firstOf 74 = .ok (.ireturn, 1) := by decide +kernel
theorem dX3_movers_0 : decode cX3_movers 0 = .ok (.iconst 0, 1) := by decide +kernel
theorem dX3_movers_1 : decode cX3_movers 1 = .ok (.istore_n 1, 1) := by decide +kernel
theorem dX3_movers_2 : decode cX3_movers 2 = .ok (.iconst 0, 1) := by decide +kernel
theorem dX3_movers_3 : decode cX3_movers 3 = .ok (.istore_n 2, 1) := by decide +kernel
theorem dX3_movers_4 : decode cX3_movers 4 = .ok (.iload_n 2, 1) := by decide +kernel
theorem dX3_movers_5 : decode cX3_movers 5 = .ok (.aload_n 0, 1) := by decide +kernel
theorem dX3_movers_6 : decode cX3_movers 6 = .ok (.getfield 28, 3) := by decide +kernel
theorem dX3_movers_9 : decode cX3_movers 9 = .ok (.getfield 59, 3) := by decide +kernel
theorem dX3_movers_12 : decode cX3_movers 12 = .ok (.if_icmp .ge 51, 3) := by decide +kernel
theorem dX3_movers_15 : decode cX3_movers 15 = .ok (.aload_n 0, 1) := by decide +kernel
theorem dX3_movers_16 : decode cX3_movers 16 = .ok (.getfield 41, 3) := by decide +kernel
theorem dX3_movers_19 : decode cX3_movers 19 = .ok (.getfield 48, 3) := by decide +kernel
theorem dX3_movers_22 : decode cX3_movers 22 = .ok (.iload_n 2, 1) := by decide +kernel
theorem dX3_movers_23 : decode cX3_movers 23 = .ok (.iaload, 1) := by decide +kernel
theorem dX3_movers_24 : decode cX3_movers 24 = .ok (.istore_n 3, 1) := by decide +kernel
theorem dX3_movers_25 : decode cX3_movers 25 = .ok (.aload_n 0, 1) := by decide +kernel
theorem dX3_movers_26 : decode cX3_movers 26 = .ok (.getfield 12, 3) := by decide +kernel
theorem dX3_movers_29 : decode cX3_movers 29 = .ok (.getfield 48, 3) := by decide +kernel
theorem dX3_movers_32 : decode cX3_movers 32 = .ok (.iload_n 2, 1) := by decide +kernel
theorem dX3_movers_33 : decode cX3_movers 33 = .ok (.iaload, 1) := by decide +kernel
theorem dX3_movers_34 : decode cX3_movers 34 = .ok (.istore 4, 2) := by decide +kernel
theorem dX3_movers_36 : decode cX3_movers 36 = .ok (.iload_n 3, 1) := by decide +kernel
theorem dX3_movers_37 : decode cX3_movers 37 = .ok (.ifCond .eq 20, 3) := by decide +kernel
theorem dX3_movers_40 : decode cX3_movers 40 = .ok (.iload 4, 2) := by decide +kernel
theorem dX3_movers_42 : decode cX3_movers 42 = .ok (.ifCond .eq 15, 3) := by decide +kernel
theorem dX3_movers_45 : decode cX3_movers 45 = .ok (.iload_n 3, 1) := by decide +kernel
theorem dX3_movers_46 : decode cX3_movers 46 = .ok (.iload 4, 2) := by decide +kernel
theorem dX3_movers_48 : decode cX3_movers 48 = .ok (.if_icmp .eq 9, 3) := by decide +kernel
theorem dX3_movers_51 : decode cX3_movers 51 = .ok (.iload_n 1, 1) := by decide +kernel
theorem dX3_movers_52 : decode cX3_movers 52 = .ok (.iconst 1, 1) := by decide +kernel
theorem dX3_movers_53 : decode cX3_movers 53 = .ok (.iload_n 2, 1) := by decide +kernel
theorem dX3_movers_54 : decode cX3_movers 54 = .ok (.ishl, 1) := by decide +kernel
theorem dX3_movers_55 : decode cX3_movers 55 = .ok (.ior, 1) := by decide +kernel
theorem dX3_movers_56 : decode cX3_movers 56 = .ok (.istore_n 1, 1) := by decide +kernel
theorem dX3_movers_57 : decode cX3_movers 57 = .ok (.iinc 2 1, 3) := by decide +kernel
theorem dX3_movers_60 : decode cX3_movers 60 = .ok (.goto (-56), 3) := by decide +kernel
theorem dX3_movers_63 : decode cX3_movers 63 = .ok (.iload_n 1, 1) := by decide +kernel
theorem dX3_movers_64 : decode cX3_movers 64 = .ok (.ireturn, 1) := by decide +kernel
theorem dX3_inRow_0 : decode cX3_inRow 0 = .ok (.aload_n 0, 1) := by decide +kernel
theorem dX3_inRow_1 : decode cX3_inRow 1 = .ok (.invokevirtual 83, 3) := by decide +kernel
theorem dX3_inRow_4 : decode cX3_inRow 4 = .ok (.istore_n 2, 1) := by decide +kernel
theorem dX3_inRow_5 : decode cX3_inRow 5 = .ok (.iload_n 1, 1) := by decide +kernel
theorem dX3_inRow_6 : decode cX3_inRow 6 = .ok (.iload_n 2, 1) := by decide +kernel
theorem dX3_inRow_7 : decode cX3_inRow 7 = .ok (.invokestatic 87, 3) := by decide +kernel
theorem dX3_inRow_10 : decode cX3_inRow 10 = .ok (.if_icmp .ge 18, 3) := by decide +kernel
theorem dX3_inRow_13 : decode cX3_inRow 13 = .ok (.iload_n 1, 1) := by decide +kernel
theorem dX3_inRow_14 : decode cX3_inRow 14 = .ok (.bipush 9, 2) := by decide +kernel
theorem dX3_inRow_16 : decode cX3_inRow 16 = .ok (.if_icmp .ge 12, 3) := by decide +kernel
theorem dX3_inRow_19 : decode cX3_inRow 19 = .ok (.aload_n 0, 1) := by decide +kernel
theorem dX3_inRow_20 : decode cX3_inRow 20 = .ok (.iload_n 2, 1) := by decide +kernel
theorem dX3_inRow_21 : decode cX3_inRow 21 = .ok (.iconst 0, 1) := by decide +kernel
theorem dX3_inRow_22 : decode cX3_inRow 22 = .ok (.invokevirtual 92, 3) := by decide +kernel
theorem dX3_inRow_25 : decode cX3_inRow 25 = .ok (.ifCond .ne 5, 3) := by decide +kernel
theorem dX3_inRow_28 : decode cX3_inRow 28 = .ok (.iconst (-1), 1) := by decide +kernel
theorem dX3_inRow_29 : decode cX3_inRow 29 = .ok (.ireturn, 1) := by decide +kernel
theorem dX3_inRow_30 : decode cX3_inRow 30 = .ok (.aload_n 0, 1) := by decide +kernel
theorem dX3_inRow_31 : decode cX3_inRow 31 = .ok (.getfield 22, 3) := by decide +kernel
theorem dX3_inRow_34 : decode cX3_inRow 34 = .ok (.iload_n 1, 1) := by decide +kernel
theorem dX3_inRow_35 : decode cX3_inRow 35 = .ok (.iaload, 1) := by decide +kernel
theorem dX3_inRow_36 : decode cX3_inRow 36 = .ok (.ireturn, 1) := by decide +kernel
theorem dX3_fewestToBreak_0 : decode cX3_fewestToBreak 0 = .ok (.aload_n 0, 1) := by decide +kernel
theorem dX3_fewestToBreak_1 : decode cX3_fewestToBreak 1 = .ok (.invokevirtual 83, 3) := by decide +kernel
theorem dX3_fewestToBreak_4 : decode cX3_fewestToBreak 4 = .ok (.istore_n 1, 1) := by decide +kernel
theorem dX3_fewestToBreak_5 : decode cX3_fewestToBreak 5 = .ok (.aload_n 0, 1) := by decide +kernel
theorem dX3_fewestToBreak_6 : decode cX3_fewestToBreak 6 = .ok (.iload_n 1, 1) := by decide +kernel
theorem dX3_fewestToBreak_7 : decode cX3_fewestToBreak 7 = .ok (.invokevirtual 96, 3) := by decide +kernel
theorem dX3_fewestToBreak_10 : decode cX3_fewestToBreak 10 = .ok (.ifCond .ne 5, 3) := by decide +kernel
theorem dX3_fewestToBreak_13 : decode cX3_fewestToBreak 13 = .ok (.iconst (-1), 1) := by decide +kernel
theorem dX3_fewestToBreak_14 : decode cX3_fewestToBreak 14 = .ok (.ireturn, 1) := by decide +kernel
theorem dX3_fewestToBreak_15 : decode cX3_fewestToBreak 15 = .ok (.iconst 0, 1) := by decide +kernel
theorem dX3_fewestToBreak_16 : decode cX3_fewestToBreak 16 = .ok (.istore_n 2, 1) := by decide +kernel
theorem dX3_fewestToBreak_17 : decode cX3_fewestToBreak 17 = .ok (.iload_n 2, 1) := by decide +kernel
theorem dX3_fewestToBreak_18 : decode cX3_fewestToBreak 18 = .ok (.bipush 9, 2) := by decide +kernel
theorem dX3_fewestToBreak_20 : decode cX3_fewestToBreak 20 = .ok (.if_icmp .gt 53, 3) := by decide +kernel
theorem dX3_fewestToBreak_23 : decode cX3_fewestToBreak 23 = .ok (.iconst 0, 1) := by decide +kernel
theorem dX3_fewestToBreak_24 : decode cX3_fewestToBreak 24 = .ok (.istore_n 3, 1) := by decide +kernel
theorem dX3_fewestToBreak_25 : decode cX3_fewestToBreak 25 = .ok (.iload_n 3, 1) := by decide +kernel
theorem dX3_fewestToBreak_26 : decode cX3_fewestToBreak 26 = .ok (.iload_n 1, 1) := by decide +kernel
theorem dX3_fewestToBreak_27 : decode cX3_fewestToBreak 27 = .ok (.if_icmp .gt 40, 3) := by decide +kernel
theorem dX3_fewestToBreak_30 : decode cX3_fewestToBreak 30 = .ok (.iload_n 3, 1) := by decide +kernel
theorem dX3_fewestToBreak_31 : decode cX3_fewestToBreak 31 = .ok (.iload_n 1, 1) := by decide +kernel
theorem dX3_fewestToBreak_32 : decode cX3_fewestToBreak 32 = .ok (.iconst (-1), 1) := by decide +kernel
theorem dX3_fewestToBreak_33 : decode cX3_fewestToBreak 33 = .ok (.ixor, 1) := by decide +kernel
theorem dX3_fewestToBreak_34 : decode cX3_fewestToBreak 34 = .ok (.iand, 1) := by decide +kernel
theorem dX3_fewestToBreak_35 : decode cX3_fewestToBreak 35 = .ok (.ifCond .ne 26, 3) := by decide +kernel
theorem dX3_fewestToBreak_38 : decode cX3_fewestToBreak 38 = .ok (.iload_n 3, 1) := by decide +kernel
theorem dX3_fewestToBreak_39 : decode cX3_fewestToBreak 39 = .ok (.invokestatic 87, 3) := by decide +kernel
theorem dX3_fewestToBreak_42 : decode cX3_fewestToBreak 42 = .ok (.iload_n 2, 1) := by decide +kernel
theorem dX3_fewestToBreak_43 : decode cX3_fewestToBreak 43 = .ok (.if_icmp .ne 18, 3) := by decide +kernel
theorem dX3_fewestToBreak_46 : decode cX3_fewestToBreak 46 = .ok (.aload_n 0, 1) := by decide +kernel
theorem dX3_fewestToBreak_47 : decode cX3_fewestToBreak 47 = .ok (.iload_n 1, 1) := by decide +kernel
theorem dX3_fewestToBreak_48 : decode cX3_fewestToBreak 48 = .ok (.iload_n 3, 1) := by decide +kernel
theorem dX3_fewestToBreak_49 : decode cX3_fewestToBreak 49 = .ok (.iconst (-1), 1) := by decide +kernel
theorem dX3_fewestToBreak_50 : decode cX3_fewestToBreak 50 = .ok (.ixor, 1) := by decide +kernel
theorem dX3_fewestToBreak_51 : decode cX3_fewestToBreak 51 = .ok (.iand, 1) := by decide +kernel
theorem dX3_fewestToBreak_52 : decode cX3_fewestToBreak 52 = .ok (.iload_n 3, 1) := by decide +kernel
theorem dX3_fewestToBreak_53 : decode cX3_fewestToBreak 53 = .ok (.invokevirtual 92, 3) := by decide +kernel
theorem dX3_fewestToBreak_56 : decode cX3_fewestToBreak 56 = .ok (.ifCond .eq 5, 3) := by decide +kernel
theorem dX3_fewestToBreak_59 : decode cX3_fewestToBreak 59 = .ok (.iload_n 3, 1) := by decide +kernel
theorem dX3_fewestToBreak_60 : decode cX3_fewestToBreak 60 = .ok (.ireturn, 1) := by decide +kernel
theorem dX3_fewestToBreak_61 : decode cX3_fewestToBreak 61 = .ok (.iinc 3 1, 3) := by decide +kernel
theorem dX3_fewestToBreak_64 : decode cX3_fewestToBreak 64 = .ok (.goto (-39), 3) := by decide +kernel
theorem dX3_fewestToBreak_67 : decode cX3_fewestToBreak 67 = .ok (.iinc 2 1, 3) := by decide +kernel
theorem dX3_fewestToBreak_70 : decode cX3_fewestToBreak 70 = .ok (.goto (-53), 3) := by decide +kernel
theorem dX3_fewestToBreak_73 : decode cX3_fewestToBreak 73 = .ok (.iconst (-1), 1) := by decide +kernel
theorem dX3_fewestToBreak_74 : decode cX3_fewestToBreak 74 = .ok (.ireturn, 1) := by decide +kernel
theorem dX3_endFits_0 : decode cX3_endFits 0 = .ok (.aload_n 0, 1) := by decide +kernel
theorem dX3_endFits_1 : decode cX3_endFits 1 = .ok (.iconst 0, 1) := by decide +kernel
theorem dX3_endFits_2 : decode cX3_endFits 2 = .ok (.invokevirtual 100, 3) := by decide +kernel
theorem dX3_endFits_5 : decode cX3_endFits 5 = .ok (.iconst 0, 1) := by decide +kernel
theorem dX3_endFits_6 : decode cX3_endFits 6 = .ok (.istore_n 2, 1) := by decide +kernel
theorem dX3_endFits_7 : decode cX3_endFits 7 = .ok (.iload_n 2, 1) := by decide +kernel
theorem dX3_endFits_8 : decode cX3_endFits 8 = .ok (.aload_n 0, 1) := by decide +kernel
theorem dX3_endFits_9 : decode cX3_endFits 9 = .ok (.getfield 28, 3) := by decide +kernel
theorem dX3_endFits_12 : decode cX3_endFits 12 = .ok (.getfield 59, 3) := by decide +kernel
theorem dX3_endFits_15 : decode cX3_endFits 15 = .ok (.if_icmp .ge 62, 3) := by decide +kernel
theorem dX3_endFits_18 : decode cX3_endFits 18 = .ok (.iload_n 1, 1) := by decide +kernel
theorem dX3_endFits_19 : decode cX3_endFits 19 = .ok (.iload_n 2, 1) := by decide +kernel
theorem dX3_endFits_20 : decode cX3_endFits 20 = .ok (.iushr, 1) := by decide +kernel
theorem dX3_endFits_21 : decode cX3_endFits 21 = .ok (.iconst 1, 1) := by decide +kernel
theorem dX3_endFits_22 : decode cX3_endFits 22 = .ok (.iand, 1) := by decide +kernel
theorem dX3_endFits_23 : decode cX3_endFits 23 = .ok (.ifCond .eq 48, 3) := by decide +kernel
theorem dX3_endFits_26 : decode cX3_endFits 26 = .ok (.aload_n 0, 1) := by decide +kernel
theorem dX3_endFits_27 : decode cX3_endFits 27 = .ok (.aload_n 0, 1) := by decide +kernel
theorem dX3_endFits_28 : decode cX3_endFits 28 = .ok (.getfield 41, 3) := by decide +kernel
theorem dX3_endFits_31 : decode cX3_endFits 31 = .ok (.getfield 48, 3) := by decide +kernel
theorem dX3_endFits_34 : decode cX3_endFits 34 = .ok (.iload_n 2, 1) := by decide +kernel
theorem dX3_endFits_35 : decode cX3_endFits 35 = .ok (.iaload, 1) := by decide +kernel
theorem dX3_endFits_36 : decode cX3_endFits 36 = .ok (.aload_n 0, 1) := by decide +kernel
theorem dX3_endFits_37 : decode cX3_endFits 37 = .ok (.getfield 41, 3) := by decide +kernel
theorem dX3_endFits_40 : decode cX3_endFits 40 = .ok (.getfield 69, 3) := by decide +kernel
theorem dX3_endFits_43 : decode cX3_endFits 43 = .ok (.iload_n 2, 1) := by decide +kernel
theorem dX3_endFits_44 : decode cX3_endFits 44 = .ok (.iaload, 1) := by decide +kernel
theorem dX3_endFits_45 : decode cX3_endFits 45 = .ok (.ineg, 1) := by decide +kernel
theorem dX3_endFits_46 : decode cX3_endFits 46 = .ok (.invokevirtual 103, 3) := by decide +kernel
theorem dX3_endFits_49 : decode cX3_endFits 49 = .ok (.aload_n 0, 1) := by decide +kernel
theorem dX3_endFits_50 : decode cX3_endFits 50 = .ok (.aload_n 0, 1) := by decide +kernel
theorem dX3_endFits_51 : decode cX3_endFits 51 = .ok (.getfield 12, 3) := by decide +kernel
theorem dX3_endFits_54 : decode cX3_endFits 54 = .ok (.getfield 48, 3) := by decide +kernel
theorem dX3_endFits_57 : decode cX3_endFits 57 = .ok (.iload_n 2, 1) := by decide +kernel
theorem dX3_endFits_58 : decode cX3_endFits 58 = .ok (.iaload, 1) := by decide +kernel
theorem dX3_endFits_59 : decode cX3_endFits 59 = .ok (.aload_n 0, 1) := by decide +kernel
theorem dX3_endFits_60 : decode cX3_endFits 60 = .ok (.getfield 41, 3) := by decide +kernel
theorem dX3_endFits_63 : decode cX3_endFits 63 = .ok (.getfield 69, 3) := by decide +kernel
theorem dX3_endFits_66 : decode cX3_endFits 66 = .ok (.iload_n 2, 1) := by decide +kernel
theorem dX3_endFits_67 : decode cX3_endFits 67 = .ok (.iaload, 1) := by decide +kernel
theorem dX3_endFits_68 : decode cX3_endFits 68 = .ok (.invokevirtual 103, 3) := by decide +kernel
theorem dX3_endFits_71 : decode cX3_endFits 71 = .ok (.iinc 2 1, 3) := by decide +kernel
theorem dX3_endFits_74 : decode cX3_endFits 74 = .ok (.goto (-67), 3) := by decide +kernel
theorem dX3_endFits_77 : decode cX3_endFits 77 = .ok (.iconst 0, 1) := by decide +kernel
theorem dX3_endFits_78 : decode cX3_endFits 78 = .ok (.istore_n 2, 1) := by decide +kernel
theorem dX3_endFits_79 : decode cX3_endFits 79 = .ok (.iload_n 2, 1) := by decide +kernel
theorem dX3_endFits_80 : decode cX3_endFits 80 = .ok (.aload_n 0, 1) := by decide +kernel
theorem dX3_endFits_81 : decode cX3_endFits 81 = .ok (.getfield 28, 3) := by decide +kernel
theorem dX3_endFits_84 : decode cX3_endFits 84 = .ok (.getfield 107, 3) := by decide +kernel
theorem dX3_endFits_87 : decode cX3_endFits 87 = .ok (.if_icmp .ge 29, 3) := by decide +kernel
theorem dX3_endFits_90 : decode cX3_endFits 90 = .ok (.aload_n 0, 1) := by decide +kernel
theorem dX3_endFits_91 : decode cX3_endFits 91 = .ok (.getfield 18, 3) := by decide +kernel
theorem dX3_endFits_94 : decode cX3_endFits 94 = .ok (.iload_n 2, 1) := by decide +kernel
theorem dX3_endFits_95 : decode cX3_endFits 95 = .ok (.iaload, 1) := by decide +kernel
theorem dX3_endFits_96 : decode cX3_endFits 96 = .ok (.aload_n 0, 1) := by decide +kernel
theorem dX3_endFits_97 : decode cX3_endFits 97 = .ok (.getfield 28, 3) := by decide +kernel
theorem dX3_endFits_100 : decode cX3_endFits 100 = .ok (.getfield 110, 3) := by decide +kernel
theorem dX3_endFits_103 : decode cX3_endFits 103 = .ok (.iload_n 2, 1) := by decide +kernel
theorem dX3_endFits_104 : decode cX3_endFits 104 = .ok (.iaload, 1) := by decide +kernel
theorem dX3_endFits_105 : decode cX3_endFits 105 = .ok (.if_icmp .le 5, 3) := by decide +kernel
theorem dX3_endFits_108 : decode cX3_endFits 108 = .ok (.iconst 0, 1) := by decide +kernel
theorem dX3_endFits_109 : decode cX3_endFits 109 = .ok (.ireturn, 1) := by decide +kernel
theorem dX3_endFits_110 : decode cX3_endFits 110 = .ok (.iinc 2 1, 3) := by decide +kernel
theorem dX3_endFits_113 : decode cX3_endFits 113 = .ok (.goto (-34), 3) := by decide +kernel
theorem dX3_endFits_116 : decode cX3_endFits 116 = .ok (.iconst 1, 1) := by decide +kernel
theorem dX3_endFits_117 : decode cX3_endFits 117 = .ok (.ireturn, 1) := by decide +kernel
theorem dX3_canMove_0 : decode cX3_canMove 0 = .ok (.aload_n 0, 1) := by decide +kernel
theorem dX3_canMove_1 : decode cX3_canMove 1 = .ok (.dup, 1) := by decide +kernel
theorem dX3_canMove_2 : decode cX3_canMove 2 = .ok (.getfield 113, 3) := by decide +kernel
theorem dX3_canMove_5 : decode cX3_canMove 5 = .ok (.iconst 1, 1) := by decide +kernel
theorem dX3_canMove_6 : decode cX3_canMove 6 = .ok (.iadd, 1) := by decide +kernel
theorem dX3_canMove_7 : decode cX3_canMove 7 = .ok (.putfield 113, 3) := by decide +kernel
theorem dX3_canMove_10 : decode cX3_canMove 10 = .ok (.aload_n 0, 1) := by decide +kernel
theorem dX3_canMove_11 : decode cX3_canMove 11 = .ok (.iload_n 2, 1) := by decide +kernel
theorem dX3_canMove_12 : decode cX3_canMove 12 = .ok (.invokevirtual 100, 3) := by decide +kernel
theorem dX3_canMove_15 : decode cX3_canMove 15 = .ok (.aload_n 0, 1) := by decide +kernel
theorem dX3_canMove_16 : decode cX3_canMove 16 = .ok (.iload_n 1, 1) := by decide +kernel
theorem dX3_canMove_17 : decode cX3_canMove 17 = .ok (.iconst 0, 1) := by decide +kernel
theorem dX3_canMove_18 : decode cX3_canMove 18 = .ok (.invokevirtual 116, 3) := by decide +kernel
theorem dX3_canMove_21 : decode cX3_canMove 21 = .ok (.ireturn, 1) := by decide +kernel
theorem dX3_countTaken_0 : decode cX3_countTaken 0 = .ok (.iconst 0, 1) := by decide +kernel
theorem dX3_countTaken_1 : decode cX3_countTaken 1 = .ok (.istore_n 2, 1) := by decide +kernel
theorem dX3_countTaken_2 : decode cX3_countTaken 2 = .ok (.iload_n 2, 1) := by decide +kernel
theorem dX3_countTaken_3 : decode cX3_countTaken 3 = .ok (.aload_n 0, 1) := by decide +kernel
theorem dX3_countTaken_4 : decode cX3_countTaken 4 = .ok (.getfield 28, 3) := by decide +kernel
theorem dX3_countTaken_7 : decode cX3_countTaken 7 = .ok (.getfield 107, 3) := by decide +kernel
theorem dX3_countTaken_10 : decode cX3_countTaken 10 = .ok (.if_icmp .ge 23, 3) := by decide +kernel
theorem dX3_countTaken_13 : decode cX3_countTaken 13 = .ok (.aload_n 0, 1) := by decide +kernel
theorem dX3_countTaken_14 : decode cX3_countTaken 14 = .ok (.getfield 18, 3) := by decide +kernel
theorem dX3_countTaken_17 : decode cX3_countTaken 17 = .ok (.iload_n 2, 1) := by decide +kernel
theorem dX3_countTaken_18 : decode cX3_countTaken 18 = .ok (.aload_n 0, 1) := by decide +kernel
theorem dX3_countTaken_19 : decode cX3_countTaken 19 = .ok (.getfield 32, 3) := by decide +kernel
theorem dX3_countTaken_22 : decode cX3_countTaken 22 = .ok (.iload_n 2, 1) := by decide +kernel
theorem dX3_countTaken_23 : decode cX3_countTaken 23 = .ok (.invokevirtual 119, 3) := by decide +kernel
theorem dX3_countTaken_26 : decode cX3_countTaken 26 = .ok (.iastore, 1) := by decide +kernel
theorem dX3_countTaken_27 : decode cX3_countTaken 27 = .ok (.iinc 2 1, 3) := by decide +kernel
theorem dX3_countTaken_30 : decode cX3_countTaken 30 = .ok (.goto (-28), 3) := by decide +kernel
theorem dX3_countTaken_33 : decode cX3_countTaken 33 = .ok (.iconst 0, 1) := by decide +kernel
theorem dX3_countTaken_34 : decode cX3_countTaken 34 = .ok (.istore_n 2, 1) := by decide +kernel
theorem dX3_countTaken_35 : decode cX3_countTaken 35 = .ok (.iload_n 2, 1) := by decide +kernel
theorem dX3_countTaken_36 : decode cX3_countTaken 36 = .ok (.aload_n 0, 1) := by decide +kernel
theorem dX3_countTaken_37 : decode cX3_countTaken 37 = .ok (.getfield 28, 3) := by decide +kernel
theorem dX3_countTaken_40 : decode cX3_countTaken 40 = .ok (.getfield 59, 3) := by decide +kernel
theorem dX3_countTaken_43 : decode cX3_countTaken 43 = .ok (.if_icmp .ge 40, 3) := by decide +kernel
theorem dX3_countTaken_46 : decode cX3_countTaken 46 = .ok (.iload_n 1, 1) := by decide +kernel
theorem dX3_countTaken_47 : decode cX3_countTaken 47 = .ok (.iload_n 2, 1) := by decide +kernel
theorem dX3_countTaken_48 : decode cX3_countTaken 48 = .ok (.iushr, 1) := by decide +kernel
theorem dX3_countTaken_49 : decode cX3_countTaken 49 = .ok (.iconst 1, 1) := by decide +kernel
theorem dX3_countTaken_50 : decode cX3_countTaken 50 = .ok (.iand, 1) := by decide +kernel
theorem dX3_countTaken_51 : decode cX3_countTaken 51 = .ok (.ifCond .eq 26, 3) := by decide +kernel
theorem dX3_countTaken_54 : decode cX3_countTaken 54 = .ok (.aload_n 0, 1) := by decide +kernel
theorem dX3_countTaken_55 : decode cX3_countTaken 55 = .ok (.aload_n 0, 1) := by decide +kernel
theorem dX3_countTaken_56 : decode cX3_countTaken 56 = .ok (.getfield 41, 3) := by decide +kernel
theorem dX3_countTaken_59 : decode cX3_countTaken 59 = .ok (.getfield 48, 3) := by decide +kernel
theorem dX3_countTaken_62 : decode cX3_countTaken 62 = .ok (.iload_n 2, 1) := by decide +kernel
theorem dX3_countTaken_63 : decode cX3_countTaken 63 = .ok (.iaload, 1) := by decide +kernel
theorem dX3_countTaken_64 : decode cX3_countTaken 64 = .ok (.aload_n 0, 1) := by decide +kernel
theorem dX3_countTaken_65 : decode cX3_countTaken 65 = .ok (.getfield 41, 3) := by decide +kernel
theorem dX3_countTaken_68 : decode cX3_countTaken 68 = .ok (.getfield 69, 3) := by decide +kernel
theorem dX3_countTaken_71 : decode cX3_countTaken 71 = .ok (.iload_n 2, 1) := by decide +kernel
theorem dX3_countTaken_72 : decode cX3_countTaken 72 = .ok (.iaload, 1) := by decide +kernel
theorem dX3_countTaken_73 : decode cX3_countTaken 73 = .ok (.ineg, 1) := by decide +kernel
theorem dX3_countTaken_74 : decode cX3_countTaken 74 = .ok (.invokevirtual 103, 3) := by decide +kernel
theorem dX3_countTaken_77 : decode cX3_countTaken 77 = .ok (.iinc 2 1, 3) := by decide +kernel
theorem dX3_countTaken_80 : decode cX3_countTaken 80 = .ok (.goto (-45), 3) := by decide +kernel
theorem dX3_countTaken_83 : decode cX3_countTaken 83 = .ok (.return_, 1) := by decide +kernel
theorem dX3_book_0 : decode cX3_book 0 = .ok (.iconst 0, 1) := by decide +kernel
theorem dX3_book_1 : decode cX3_book 1 = .ok (.istore_n 3, 1) := by decide +kernel
theorem dX3_book_2 : decode cX3_book 2 = .ok (.iload_n 3, 1) := by decide +kernel
theorem dX3_book_3 : decode cX3_book 3 = .ok (.aload_n 0, 1) := by decide +kernel
theorem dX3_book_4 : decode cX3_book 4 = .ok (.getfield 28, 3) := by decide +kernel
theorem dX3_book_7 : decode cX3_book 7 = .ok (.getfield 107, 3) := by decide +kernel
theorem dX3_book_10 : decode cX3_book 10 = .ok (.if_icmp .ge 27, 3) := by decide +kernel
theorem dX3_book_13 : decode cX3_book 13 = .ok (.iload_n 1, 1) := by decide +kernel
theorem dX3_book_14 : decode cX3_book 14 = .ok (.iload_n 3, 1) := by decide +kernel
theorem dX3_book_15 : decode cX3_book 15 = .ok (.iushr, 1) := by decide +kernel
theorem dX3_book_16 : decode cX3_book 16 = .ok (.iconst 1, 1) := by decide +kernel
theorem dX3_book_17 : decode cX3_book 17 = .ok (.iand, 1) := by decide +kernel
theorem dX3_book_18 : decode cX3_book 18 = .ok (.ifCond .eq 13, 3) := by decide +kernel
theorem dX3_book_21 : decode cX3_book 21 = .ok (.aload_n 0, 1) := by decide +kernel
theorem dX3_book_22 : decode cX3_book 22 = .ok (.getfield 18, 3) := by decide +kernel
theorem dX3_book_25 : decode cX3_book 25 = .ok (.iload_n 3, 1) := by decide +kernel
theorem dX3_book_26 : decode cX3_book 26 = .ok (.dup2, 1) := by decide +kernel
theorem dX3_book_27 : decode cX3_book 27 = .ok (.iaload, 1) := by decide +kernel
theorem dX3_book_28 : decode cX3_book 28 = .ok (.iload_n 2, 1) := by decide +kernel
theorem dX3_book_29 : decode cX3_book 29 = .ok (.iadd, 1) := by decide +kernel
theorem dX3_book_30 : decode cX3_book 30 = .ok (.iastore, 1) := by decide +kernel
theorem dX3_book_31 : decode cX3_book 31 = .ok (.iinc 3 1, 3) := by decide +kernel
theorem dX3_book_34 : decode cX3_book 34 = .ok (.goto (-32), 3) := by decide +kernel
theorem dX3_book_37 : decode cX3_book 37 = .ok (.return_, 1) := by decide +kernel
theorem dX3_moveRest_0 : decode cX3_moveRest 0 = .ok (.iload_n 1, 1) := by decide +kernel
theorem dX3_moveRest_1 : decode cX3_moveRest 1 = .ok (.ifCond .ne 5, 3) := by decide +kernel
theorem dX3_moveRest_4 : decode cX3_moveRest 4 = .ok (.iconst 1, 1) := by decide +kernel
theorem dX3_moveRest_5 : decode cX3_moveRest 5 = .ok (.ireturn, 1) := by decide +kernel
theorem dX3_moveRest_6 : decode cX3_moveRest 6 = .ok (.iload_n 2, 1) := by decide +kernel
theorem dX3_moveRest_7 : decode cX3_moveRest 7 = .ok (.bipush 9, 2) := by decide +kernel
theorem dX3_moveRest_9 : decode cX3_moveRest 9 = .ok (.if_icmp .ge 16, 3) := by decide +kernel
theorem dX3_moveRest_12 : decode cX3_moveRest 12 = .ok (.aload_n 0, 1) := by decide +kernel
theorem dX3_moveRest_13 : decode cX3_moveRest 13 = .ok (.getfield 25, 3) := by decide +kernel
theorem dX3_moveRest_16 : decode cX3_moveRest 16 = .ok (.iload_n 1, 1) := by decide +kernel
theorem dX3_moveRest_17 : decode cX3_moveRest 17 = .ok (.iaload, 1) := by decide +kernel
theorem dX3_moveRest_18 : decode cX3_moveRest 18 = .ok (.aload_n 0, 1) := by decide +kernel
theorem dX3_moveRest_19 : decode cX3_moveRest 19 = .ok (.getfield 113, 3) := by decide +kernel
theorem dX3_moveRest_22 : decode cX3_moveRest 22 = .ok (.if_icmp .ne 5, 3) := by decide +kernel
theorem dX3_moveRest_25 : decode cX3_moveRest 25 = .ok (.iconst 0, 1) := by decide +kernel
theorem dX3_moveRest_26 : decode cX3_moveRest 26 = .ok (.ireturn, 1) := by decide +kernel
theorem dX3_moveRest_27 : decode cX3_moveRest 27 = .ok (.iconst 0, 1) := by decide +kernel
theorem dX3_moveRest_28 : decode cX3_moveRest 28 = .ok (.istore_n 3, 1) := by decide +kernel
theorem dX3_moveRest_29 : decode cX3_moveRest 29 = .ok (.iload_n 3, 1) := by decide +kernel
theorem dX3_moveRest_30 : decode cX3_moveRest 30 = .ok (.aload_n 0, 1) := by decide +kernel
theorem dX3_moveRest_31 : decode cX3_moveRest 31 = .ok (.getfield 28, 3) := by decide +kernel
theorem dX3_moveRest_34 : decode cX3_moveRest 34 = .ok (.getfield 59, 3) := by decide +kernel
theorem dX3_moveRest_37 : decode cX3_moveRest 37 = .ok (.if_icmp .ge 159, 3) := by decide +kernel
theorem dX3_moveRest_40 : decode cX3_moveRest 40 = .ok (.iload_n 1, 1) := by decide +kernel
theorem dX3_moveRest_41 : decode cX3_moveRest 41 = .ok (.iload_n 3, 1) := by decide +kernel
theorem dX3_moveRest_42 : decode cX3_moveRest 42 = .ok (.iushr, 1) := by decide +kernel
theorem dX3_moveRest_43 : decode cX3_moveRest 43 = .ok (.iconst 1, 1) := by decide +kernel
theorem dX3_moveRest_44 : decode cX3_moveRest 44 = .ok (.iand, 1) := by decide +kernel
theorem dX3_moveRest_45 : decode cX3_moveRest 45 = .ok (.ifCond .eq 145, 3) := by decide +kernel
theorem dX3_moveRest_48 : decode cX3_moveRest 48 = .ok (.aload_n 0, 1) := by decide +kernel
theorem dX3_moveRest_49 : decode cX3_moveRest 49 = .ok (.iload_n 3, 1) := by decide +kernel
theorem dX3_moveRest_50 : decode cX3_moveRest 50 = .ok (.invokevirtual 121, 3) := by decide +kernel
theorem dX3_moveRest_53 : decode cX3_moveRest 53 = .ok (.ifCond .eq 137, 3) := by decide +kernel
theorem dX3_moveRest_56 : decode cX3_moveRest 56 = .ok (.aload_n 0, 1) := by decide +kernel
theorem dX3_moveRest_57 : decode cX3_moveRest 57 = .ok (.getfield 12, 3) := by decide +kernel
theorem dX3_moveRest_60 : decode cX3_moveRest 60 = .ok (.getfield 48, 3) := by decide +kernel
theorem dX3_moveRest_63 : decode cX3_moveRest 63 = .ok (.iload_n 3, 1) := by decide +kernel
theorem dX3_moveRest_64 : decode cX3_moveRest 64 = .ok (.iaload, 1) := by decide +kernel
theorem dX3_moveRest_65 : decode cX3_moveRest 65 = .ok (.aload_n 0, 1) := by decide +kernel
theorem dX3_moveRest_66 : decode cX3_moveRest 66 = .ok (.getfield 41, 3) := by decide +kernel
theorem dX3_moveRest_69 : decode cX3_moveRest 69 = .ok (.getfield 48, 3) := by decide +kernel
theorem dX3_moveRest_72 : decode cX3_moveRest 72 = .ok (.iload_n 3, 1) := by decide +kernel
theorem dX3_moveRest_73 : decode cX3_moveRest 73 = .ok (.iaload, 1) := by decide +kernel
theorem dX3_moveRest_74 : decode cX3_moveRest 74 = .ok (.iconst (-1), 1) := by decide +kernel
theorem dX3_moveRest_75 : decode cX3_moveRest 75 = .ok (.ixor, 1) := by decide +kernel
theorem dX3_moveRest_76 : decode cX3_moveRest 76 = .ok (.iand, 1) := by decide +kernel
theorem dX3_moveRest_77 : decode cX3_moveRest 77 = .ok (.istore 4, 2) := by decide +kernel
theorem dX3_moveRest_79 : decode cX3_moveRest 79 = .ok (.aload_n 0, 1) := by decide +kernel
theorem dX3_moveRest_80 : decode cX3_moveRest 80 = .ok (.getfield 41, 3) := by decide +kernel
theorem dX3_moveRest_83 : decode cX3_moveRest 83 = .ok (.getfield 48, 3) := by decide +kernel
theorem dX3_moveRest_86 : decode cX3_moveRest 86 = .ok (.iload_n 3, 1) := by decide +kernel
theorem dX3_moveRest_87 : decode cX3_moveRest 87 = .ok (.iaload, 1) := by decide +kernel
theorem dX3_moveRest_88 : decode cX3_moveRest 88 = .ok (.aload_n 0, 1) := by decide +kernel
theorem dX3_moveRest_89 : decode cX3_moveRest 89 = .ok (.getfield 12, 3) := by decide +kernel
theorem dX3_moveRest_92 : decode cX3_moveRest 92 = .ok (.getfield 48, 3) := by decide +kernel
theorem dX3_moveRest_95 : decode cX3_moveRest 95 = .ok (.iload_n 3, 1) := by decide +kernel
theorem dX3_moveRest_96 : decode cX3_moveRest 96 = .ok (.iaload, 1) := by decide +kernel
theorem dX3_moveRest_97 : decode cX3_moveRest 97 = .ok (.iconst (-1), 1) := by decide +kernel
theorem dX3_moveRest_98 : decode cX3_moveRest 98 = .ok (.ixor, 1) := by decide +kernel
theorem dX3_moveRest_99 : decode cX3_moveRest 99 = .ok (.iand, 1) := by decide +kernel
theorem dX3_moveRest_100 : decode cX3_moveRest 100 = .ok (.istore 5, 2) := by decide +kernel
theorem dX3_moveRest_102 : decode cX3_moveRest 102 = .ok (.aload_n 0, 1) := by decide +kernel
theorem dX3_moveRest_103 : decode cX3_moveRest 103 = .ok (.iload 4, 2) := by decide +kernel
theorem dX3_moveRest_105 : decode cX3_moveRest 105 = .ok (.aload_n 0, 1) := by decide +kernel
theorem dX3_moveRest_106 : decode cX3_moveRest 106 = .ok (.getfield 41, 3) := by decide +kernel
theorem dX3_moveRest_109 : decode cX3_moveRest 109 = .ok (.getfield 69, 3) := by decide +kernel
theorem dX3_moveRest_112 : decode cX3_moveRest 112 = .ok (.iload_n 3, 1) := by decide +kernel
theorem dX3_moveRest_113 : decode cX3_moveRest 113 = .ok (.iaload, 1) := by decide +kernel
theorem dX3_moveRest_114 : decode cX3_moveRest 114 = .ok (.invokevirtual 103, 3) := by decide +kernel
theorem dX3_moveRest_117 : decode cX3_moveRest 117 = .ok (.aload_n 0, 1) := by decide +kernel
theorem dX3_moveRest_118 : decode cX3_moveRest 118 = .ok (.iload 5, 2) := by decide +kernel
theorem dX3_moveRest_120 : decode cX3_moveRest 120 = .ok (.aload_n 0, 1) := by decide +kernel
theorem dX3_moveRest_121 : decode cX3_moveRest 121 = .ok (.getfield 41, 3) := by decide +kernel
theorem dX3_moveRest_124 : decode cX3_moveRest 124 = .ok (.getfield 69, 3) := by decide +kernel
theorem dX3_moveRest_127 : decode cX3_moveRest 127 = .ok (.iload_n 3, 1) := by decide +kernel
theorem dX3_moveRest_128 : decode cX3_moveRest 128 = .ok (.iaload, 1) := by decide +kernel
theorem dX3_moveRest_129 : decode cX3_moveRest 129 = .ok (.ineg, 1) := by decide +kernel
theorem dX3_moveRest_130 : decode cX3_moveRest 130 = .ok (.invokevirtual 103, 3) := by decide +kernel
theorem dX3_moveRest_133 : decode cX3_moveRest 133 = .ok (.aload_n 0, 1) := by decide +kernel
theorem dX3_moveRest_134 : decode cX3_moveRest 134 = .ok (.iload_n 1, 1) := by decide +kernel
theorem dX3_moveRest_135 : decode cX3_moveRest 135 = .ok (.iconst 1, 1) := by decide +kernel
theorem dX3_moveRest_136 : decode cX3_moveRest 136 = .ok (.iload_n 3, 1) := by decide +kernel
theorem dX3_moveRest_137 : decode cX3_moveRest 137 = .ok (.ishl, 1) := by decide +kernel
theorem dX3_moveRest_138 : decode cX3_moveRest 138 = .ok (.iconst (-1), 1) := by decide +kernel
theorem dX3_moveRest_139 : decode cX3_moveRest 139 = .ok (.ixor, 1) := by decide +kernel
theorem dX3_moveRest_140 : decode cX3_moveRest 140 = .ok (.iand, 1) := by decide +kernel
theorem dX3_moveRest_141 : decode cX3_moveRest 141 = .ok (.iload_n 2, 1) := by decide +kernel
theorem dX3_moveRest_142 : decode cX3_moveRest 142 = .ok (.iconst 1, 1) := by decide +kernel
theorem dX3_moveRest_143 : decode cX3_moveRest 143 = .ok (.iadd, 1) := by decide +kernel
theorem dX3_moveRest_144 : decode cX3_moveRest 144 = .ok (.invokevirtual 116, 3) := by decide +kernel
theorem dX3_moveRest_147 : decode cX3_moveRest 147 = .ok (.ifCond .eq 12, 3) := by decide +kernel
theorem dX3_moveRest_150 : decode cX3_moveRest 150 = .ok (.aload_n 0, 1) := by decide +kernel
theorem dX3_moveRest_151 : decode cX3_moveRest 151 = .ok (.getfield 22, 3) := by decide +kernel
theorem dX3_moveRest_154 : decode cX3_moveRest 154 = .ok (.iload_n 2, 1) := by decide +kernel
theorem dX3_moveRest_155 : decode cX3_moveRest 155 = .ok (.iload_n 3, 1) := by decide +kernel
theorem dX3_moveRest_156 : decode cX3_moveRest 156 = .ok (.iastore, 1) := by decide +kernel
theorem dX3_moveRest_157 : decode cX3_moveRest 157 = .ok (.iconst 1, 1) := by decide +kernel
theorem dX3_moveRest_158 : decode cX3_moveRest 158 = .ok (.ireturn, 1) := by decide +kernel
theorem dX3_moveRest_159 : decode cX3_moveRest 159 = .ok (.aload_n 0, 1) := by decide +kernel
theorem dX3_moveRest_160 : decode cX3_moveRest 160 = .ok (.iload 4, 2) := by decide +kernel
theorem dX3_moveRest_162 : decode cX3_moveRest 162 = .ok (.aload_n 0, 1) := by decide +kernel
theorem dX3_moveRest_163 : decode cX3_moveRest 163 = .ok (.getfield 41, 3) := by decide +kernel
theorem dX3_moveRest_166 : decode cX3_moveRest 166 = .ok (.getfield 69, 3) := by decide +kernel
theorem dX3_moveRest_169 : decode cX3_moveRest 169 = .ok (.iload_n 3, 1) := by decide +kernel
theorem dX3_moveRest_170 : decode cX3_moveRest 170 = .ok (.iaload, 1) := by decide +kernel
theorem dX3_moveRest_171 : decode cX3_moveRest 171 = .ok (.ineg, 1) := by decide +kernel
theorem dX3_moveRest_172 : decode cX3_moveRest 172 = .ok (.invokevirtual 103, 3) := by decide +kernel
theorem dX3_moveRest_175 : decode cX3_moveRest 175 = .ok (.aload_n 0, 1) := by decide +kernel
theorem dX3_moveRest_176 : decode cX3_moveRest 176 = .ok (.iload 5, 2) := by decide +kernel
theorem dX3_moveRest_178 : decode cX3_moveRest 178 = .ok (.aload_n 0, 1) := by decide +kernel
theorem dX3_moveRest_179 : decode cX3_moveRest 179 = .ok (.getfield 41, 3) := by decide +kernel
theorem dX3_moveRest_182 : decode cX3_moveRest 182 = .ok (.getfield 69, 3) := by decide +kernel
theorem dX3_moveRest_185 : decode cX3_moveRest 185 = .ok (.iload_n 3, 1) := by decide +kernel
theorem dX3_moveRest_186 : decode cX3_moveRest 186 = .ok (.iaload, 1) := by decide +kernel
theorem dX3_moveRest_187 : decode cX3_moveRest 187 = .ok (.invokevirtual 103, 3) := by decide +kernel
theorem dX3_moveRest_190 : decode cX3_moveRest 190 = .ok (.iinc 3 1, 3) := by decide +kernel
theorem dX3_moveRest_193 : decode cX3_moveRest 193 = .ok (.goto (-164), 3) := by decide +kernel
theorem dX3_moveRest_196 : decode cX3_moveRest 196 = .ok (.aload_n 0, 1) := by decide +kernel
theorem dX3_moveRest_197 : decode cX3_moveRest 197 = .ok (.getfield 25, 3) := by decide +kernel
theorem dX3_moveRest_200 : decode cX3_moveRest 200 = .ok (.iload_n 1, 1) := by decide +kernel
theorem dX3_moveRest_201 : decode cX3_moveRest 201 = .ok (.aload_n 0, 1) := by decide +kernel
theorem dX3_moveRest_202 : decode cX3_moveRest 202 = .ok (.getfield 113, 3) := by decide +kernel
theorem dX3_moveRest_205 : decode cX3_moveRest 205 = .ok (.iastore, 1) := by decide +kernel
theorem dX3_moveRest_206 : decode cX3_moveRest 206 = .ok (.iconst 0, 1) := by decide +kernel
theorem dX3_moveRest_207 : decode cX3_moveRest 207 = .ok (.ireturn, 1) := by decide +kernel
theorem dX3_mayMove_0 : decode cX3_mayMove 0 = .ok (.aload_n 0, 1) := by decide +kernel
theorem dX3_mayMove_1 : decode cX3_mayMove 1 = .ok (.getfield 12, 3) := by decide +kernel
theorem dX3_mayMove_4 : decode cX3_mayMove 4 = .ok (.getfield 48, 3) := by decide +kernel
theorem dX3_mayMove_7 : decode cX3_mayMove 7 = .ok (.iload_n 1, 1) := by decide +kernel
theorem dX3_mayMove_8 : decode cX3_mayMove 8 = .ok (.iaload, 1) := by decide +kernel
theorem dX3_mayMove_9 : decode cX3_mayMove 9 = .ok (.aload_n 0, 1) := by decide +kernel
theorem dX3_mayMove_10 : decode cX3_mayMove 10 = .ok (.getfield 41, 3) := by decide +kernel
theorem dX3_mayMove_13 : decode cX3_mayMove 13 = .ok (.getfield 48, 3) := by decide +kernel
theorem dX3_mayMove_16 : decode cX3_mayMove 16 = .ok (.iload_n 1, 1) := by decide +kernel
theorem dX3_mayMove_17 : decode cX3_mayMove 17 = .ok (.iaload, 1) := by decide +kernel
theorem dX3_mayMove_18 : decode cX3_mayMove 18 = .ok (.iconst (-1), 1) := by decide +kernel
theorem dX3_mayMove_19 : decode cX3_mayMove 19 = .ok (.ixor, 1) := by decide +kernel
theorem dX3_mayMove_20 : decode cX3_mayMove 20 = .ok (.iand, 1) := by decide +kernel
theorem dX3_mayMove_21 : decode cX3_mayMove 21 = .ok (.istore_n 2, 1) := by decide +kernel
theorem dX3_mayMove_22 : decode cX3_mayMove 22 = .ok (.iconst 0, 1) := by decide +kernel
theorem dX3_mayMove_23 : decode cX3_mayMove 23 = .ok (.istore_n 3, 1) := by decide +kernel
theorem dX3_mayMove_24 : decode cX3_mayMove 24 = .ok (.iload_n 3, 1) := by decide +kernel
theorem dX3_mayMove_25 : decode cX3_mayMove 25 = .ok (.aload_n 0, 1) := by decide +kernel
theorem dX3_mayMove_26 : decode cX3_mayMove 26 = .ok (.getfield 28, 3) := by decide +kernel
theorem dX3_mayMove_29 : decode cX3_mayMove 29 = .ok (.getfield 107, 3) := by decide +kernel
theorem dX3_mayMove_32 : decode cX3_mayMove 32 = .ok (.if_icmp .ge 59, 3) := by decide +kernel
theorem dX3_mayMove_35 : decode cX3_mayMove 35 = .ok (.aload_n 0, 1) := by decide +kernel
theorem dX3_mayMove_36 : decode cX3_mayMove 36 = .ok (.getfield 18, 3) := by decide +kernel
theorem dX3_mayMove_39 : decode cX3_mayMove 39 = .ok (.iload_n 3, 1) := by decide +kernel
theorem dX3_mayMove_40 : decode cX3_mayMove 40 = .ok (.iaload, 1) := by decide +kernel
theorem dX3_mayMove_41 : decode cX3_mayMove 41 = .ok (.aload_n 0, 1) := by decide +kernel
theorem dX3_mayMove_42 : decode cX3_mayMove 42 = .ok (.getfield 41, 3) := by decide +kernel
theorem dX3_mayMove_45 : decode cX3_mayMove 45 = .ok (.getfield 69, 3) := by decide +kernel
theorem dX3_mayMove_48 : decode cX3_mayMove 48 = .ok (.iload_n 1, 1) := by decide +kernel
theorem dX3_mayMove_49 : decode cX3_mayMove 49 = .ok (.iaload, 1) := by decide +kernel
theorem dX3_mayMove_50 : decode cX3_mayMove 50 = .ok (.iadd, 1) := by decide +kernel
theorem dX3_mayMove_51 : decode cX3_mayMove 51 = .ok (.aload_n 0, 1) := by decide +kernel
theorem dX3_mayMove_52 : decode cX3_mayMove 52 = .ok (.getfield 28, 3) := by decide +kernel
theorem dX3_mayMove_55 : decode cX3_mayMove 55 = .ok (.getfield 110, 3) := by decide +kernel
theorem dX3_mayMove_58 : decode cX3_mayMove 58 = .ok (.iload_n 3, 1) := by decide +kernel
theorem dX3_mayMove_59 : decode cX3_mayMove 59 = .ok (.iaload, 1) := by decide +kernel
theorem dX3_mayMove_60 : decode cX3_mayMove 60 = .ok (.if_icmp .le 7, 3) := by decide +kernel
theorem dX3_mayMove_63 : decode cX3_mayMove 63 = .ok (.iconst 1, 1) := by decide +kernel
theorem dX3_mayMove_64 : decode cX3_mayMove 64 = .ok (.goto 4, 3) := by decide +kernel
theorem dX3_mayMove_67 : decode cX3_mayMove 67 = .ok (.iconst 0, 1) := by decide +kernel
theorem dX3_mayMove_68 : decode cX3_mayMove 68 = .ok (.istore 4, 2) := by decide +kernel
theorem dX3_mayMove_70 : decode cX3_mayMove 70 = .ok (.iload 4, 2) := by decide +kernel
theorem dX3_mayMove_72 : decode cX3_mayMove 72 = .ok (.ifCond .eq 13, 3) := by decide +kernel
theorem dX3_mayMove_75 : decode cX3_mayMove 75 = .ok (.iload_n 2, 1) := by decide +kernel
theorem dX3_mayMove_76 : decode cX3_mayMove 76 = .ok (.iload_n 3, 1) := by decide +kernel
theorem dX3_mayMove_77 : decode cX3_mayMove 77 = .ok (.iushr, 1) := by decide +kernel
theorem dX3_mayMove_78 : decode cX3_mayMove 78 = .ok (.iconst 1, 1) := by decide +kernel
theorem dX3_mayMove_79 : decode cX3_mayMove 79 = .ok (.iand, 1) := by decide +kernel
theorem dX3_mayMove_80 : decode cX3_mayMove 80 = .ok (.ifCond .eq 5, 3) := by decide +kernel
theorem dX3_mayMove_83 : decode cX3_mayMove 83 = .ok (.iconst 0, 1) := by decide +kernel
theorem dX3_mayMove_84 : decode cX3_mayMove 84 = .ok (.ireturn, 1) := by decide +kernel
theorem dX3_mayMove_85 : decode cX3_mayMove 85 = .ok (.iinc 3 1, 3) := by decide +kernel
theorem dX3_mayMove_88 : decode cX3_mayMove 88 = .ok (.goto (-64), 3) := by decide +kernel
theorem dX3_mayMove_91 : decode cX3_mayMove 91 = .ok (.iconst 1, 1) := by decide +kernel
theorem dX3_mayMove_92 : decode cX3_mayMove 92 = .ok (.ireturn, 1) := by decide +kernel
theorem dX4_init_0 : decode cX4_init 0 = .ok (.aload_n 0, 1) := by decide +kernel
theorem dX4_init_1 : decode cX4_init 1 = .ok (.invokespecial 3, 3) := by decide +kernel
theorem dX4_init_4 : decode cX4_init 4 = .ok (.aload_n 0, 1) := by decide +kernel
theorem dX4_init_5 : decode cX4_init 5 = .ok (.iconst 2, 1) := by decide +kernel
theorem dX4_init_6 : decode cX4_init 6 = .ok (.putfield 9, 3) := by decide +kernel
theorem dX4_init_9 : decode cX4_init 9 = .ok (.aload_n 0, 1) := by decide +kernel
theorem dX4_init_10 : decode cX4_init 10 = .ok (.bipush 16, 2) := by decide +kernel
theorem dX4_init_12 : decode cX4_init 12 = .ok (.newarray .int, 2) := by decide +kernel
theorem dX4_init_14 : decode cX4_init 14 = .ok (.putfield 15, 3) := by decide +kernel
theorem dX4_init_17 : decode cX4_init 17 = .ok (.aload_n 0, 1) := by decide +kernel
theorem dX4_init_18 : decode cX4_init 18 = .ok (.bipush 16, 2) := by decide +kernel
theorem dX4_init_20 : decode cX4_init 20 = .ok (.newarray .int, 2) := by decide +kernel
theorem dX4_init_22 : decode cX4_init 22 = .ok (.putfield 19, 3) := by decide +kernel
theorem dX4_init_25 : decode cX4_init 25 = .ok (.aload_n 0, 1) := by decide +kernel
theorem dX4_init_26 : decode cX4_init 26 = .ok (.bipush 16, 2) := by decide +kernel
theorem dX4_init_28 : decode cX4_init 28 = .ok (.newarray .int, 2) := by decide +kernel
theorem dX4_init_30 : decode cX4_init 30 = .ok (.putfield 22, 3) := by decide +kernel
theorem dX4_init_33 : decode cX4_init 33 = .ok (.aload_n 0, 1) := by decide +kernel
theorem dX4_init_34 : decode cX4_init 34 = .ok (.bipush 16, 2) := by decide +kernel
theorem dX4_init_36 : decode cX4_init 36 = .ok (.newarray .int, 2) := by decide +kernel
theorem dX4_init_38 : decode cX4_init 38 = .ok (.putfield 25, 3) := by decide +kernel
theorem dX4_init_41 : decode cX4_init 41 = .ok (.aload_n 0, 1) := by decide +kernel
theorem dX4_init_42 : decode cX4_init 42 = .ok (.bipush 16, 2) := by decide +kernel
theorem dX4_init_44 : decode cX4_init 44 = .ok (.newarray .int, 2) := by decide +kernel
theorem dX4_init_46 : decode cX4_init 46 = .ok (.putfield 28, 3) := by decide +kernel
theorem dX4_init_49 : decode cX4_init 49 = .ok (.aload_n 0, 1) := by decide +kernel
theorem dX4_init_50 : decode cX4_init 50 = .ok (.bipush 9, 2) := by decide +kernel
theorem dX4_init_52 : decode cX4_init 52 = .ok (.newarray .int, 2) := by decide +kernel
theorem dX4_init_54 : decode cX4_init 54 = .ok (.putfield 31, 3) := by decide +kernel
theorem dX4_init_57 : decode cX4_init 57 = .ok (.aload_n 0, 1) := by decide +kernel
theorem dX4_init_58 : decode cX4_init 58 = .ok (.bipush 9, 2) := by decide +kernel
theorem dX4_init_60 : decode cX4_init 60 = .ok (.newarray .int, 2) := by decide +kernel
theorem dX4_init_62 : decode cX4_init 62 = .ok (.putfield 34, 3) := by decide +kernel
theorem dX4_init_65 : decode cX4_init 65 = .ok (.aload_n 0, 1) := by decide +kernel
theorem dX4_init_66 : decode cX4_init 66 = .ok (.bipush 9, 2) := by decide +kernel
theorem dX4_init_68 : decode cX4_init 68 = .ok (.newarray .int, 2) := by decide +kernel
theorem dX4_init_70 : decode cX4_init 70 = .ok (.putfield 37, 3) := by decide +kernel
theorem dX4_init_73 : decode cX4_init 73 = .ok (.aload_n 0, 1) := by decide +kernel
theorem dX4_init_74 : decode cX4_init 74 = .ok (.bipush 9, 2) := by decide +kernel
theorem dX4_init_76 : decode cX4_init 76 = .ok (.newarray .int, 2) := by decide +kernel
theorem dX4_init_78 : decode cX4_init 78 = .ok (.putfield 40, 3) := by decide +kernel
theorem dX4_init_81 : decode cX4_init 81 = .ok (.aload_n 0, 1) := by decide +kernel
theorem dX4_init_82 : decode cX4_init 82 = .ok (.bipush 9, 2) := by decide +kernel
theorem dX4_init_84 : decode cX4_init 84 = .ok (.newarray .int, 2) := by decide +kernel
theorem dX4_init_86 : decode cX4_init 86 = .ok (.putfield 43, 3) := by decide +kernel
theorem dX4_init_89 : decode cX4_init 89 = .ok (.aload_n 0, 1) := by decide +kernel
theorem dX4_init_90 : decode cX4_init 90 = .ok (.bipush 9, 2) := by decide +kernel
theorem dX4_init_92 : decode cX4_init 92 = .ok (.newarray .int, 2) := by decide +kernel
theorem dX4_init_94 : decode cX4_init 94 = .ok (.putfield 46, 3) := by decide +kernel
theorem dX4_init_97 : decode cX4_init 97 = .ok (.aload_n 0, 1) := by decide +kernel
theorem dX4_init_98 : decode cX4_init 98 = .ok (.bipush 9, 2) := by decide +kernel
theorem dX4_init_100 : decode cX4_init 100 = .ok (.newarray .int, 2) := by decide +kernel
theorem dX4_init_102 : decode cX4_init 102 = .ok (.putfield 49, 3) := by decide +kernel
theorem dX4_init_105 : decode cX4_init 105 = .ok (.return_, 1) := by decide +kernel
theorem dX4_clear_0 : decode cX4_clear 0 = .ok (.aload_n 0, 1) := by decide +kernel
theorem dX4_clear_1 : decode cX4_clear 1 = .ok (.iconst 2, 1) := by decide +kernel
theorem dX4_clear_2 : decode cX4_clear 2 = .ok (.putfield 9, 3) := by decide +kernel
theorem dX4_clear_5 : decode cX4_clear 5 = .ok (.aload_n 0, 1) := by decide +kernel
theorem dX4_clear_6 : decode cX4_clear 6 = .ok (.iconst 0, 1) := by decide +kernel
theorem dX4_clear_7 : decode cX4_clear 7 = .ok (.putfield 52, 3) := by decide +kernel
theorem dX4_clear_10 : decode cX4_clear 10 = .ok (.aload_n 0, 1) := by decide +kernel
theorem dX4_clear_11 : decode cX4_clear 11 = .ok (.iconst 0, 1) := by decide +kernel
theorem dX4_clear_12 : decode cX4_clear 12 = .ok (.putfield 55, 3) := by decide +kernel
theorem dX4_clear_15 : decode cX4_clear 15 = .ok (.return_, 1) := by decide +kernel
theorem dX4_copyFrom_0 : decode cX4_copyFrom 0 = .ok (.aload_n 0, 1) := by decide +kernel
theorem dX4_copyFrom_1 : decode cX4_copyFrom 1 = .ok (.aload_n 1, 1) := by decide +kernel
theorem dX4_copyFrom_2 : decode cX4_copyFrom 2 = .ok (.getfield 9, 3) := by decide +kernel
theorem dX4_copyFrom_5 : decode cX4_copyFrom 5 = .ok (.putfield 9, 3) := by decide +kernel
theorem dX4_copyFrom_8 : decode cX4_copyFrom 8 = .ok (.aload_n 0, 1) := by decide +kernel
theorem dX4_copyFrom_9 : decode cX4_copyFrom 9 = .ok (.aload_n 1, 1) := by decide +kernel
theorem dX4_copyFrom_10 : decode cX4_copyFrom 10 = .ok (.getfield 52, 3) := by decide +kernel
theorem dX4_copyFrom_13 : decode cX4_copyFrom 13 = .ok (.putfield 52, 3) := by decide +kernel
theorem dX4_copyFrom_16 : decode cX4_copyFrom 16 = .ok (.aload_n 0, 1) := by decide +kernel
theorem dX4_copyFrom_17 : decode cX4_copyFrom 17 = .ok (.aload_n 1, 1) := by decide +kernel
theorem dX4_copyFrom_18 : decode cX4_copyFrom 18 = .ok (.getfield 55, 3) := by decide +kernel
theorem dX4_copyFrom_21 : decode cX4_copyFrom 21 = .ok (.putfield 55, 3) := by decide +kernel
theorem dX4_copyFrom_24 : decode cX4_copyFrom 24 = .ok (.aload_n 1, 1) := by decide +kernel
theorem dX4_copyFrom_25 : decode cX4_copyFrom 25 = .ok (.getfield 15, 3) := by decide +kernel
theorem dX4_copyFrom_28 : decode cX4_copyFrom 28 = .ok (.iconst 0, 1) := by decide +kernel
theorem dX4_copyFrom_29 : decode cX4_copyFrom 29 = .ok (.aload_n 0, 1) := by decide +kernel
theorem dX4_copyFrom_30 : decode cX4_copyFrom 30 = .ok (.getfield 15, 3) := by decide +kernel
theorem dX4_copyFrom_33 : decode cX4_copyFrom 33 = .ok (.iconst 0, 1) := by decide +kernel
theorem dX4_copyFrom_34 : decode cX4_copyFrom 34 = .ok (.bipush 16, 2) := by decide +kernel
theorem dX4_copyFrom_36 : decode cX4_copyFrom 36 = .ok (.invokestatic 58, 3) := by decide +kernel
theorem dX4_copyFrom_39 : decode cX4_copyFrom 39 = .ok (.aload_n 1, 1) := by decide +kernel
theorem dX4_copyFrom_40 : decode cX4_copyFrom 40 = .ok (.getfield 19, 3) := by decide +kernel
theorem dX4_copyFrom_43 : decode cX4_copyFrom 43 = .ok (.iconst 0, 1) := by decide +kernel
theorem dX4_copyFrom_44 : decode cX4_copyFrom 44 = .ok (.aload_n 0, 1) := by decide +kernel
theorem dX4_copyFrom_45 : decode cX4_copyFrom 45 = .ok (.getfield 19, 3) := by decide +kernel
theorem dX4_copyFrom_48 : decode cX4_copyFrom 48 = .ok (.iconst 0, 1) := by decide +kernel
theorem dX4_copyFrom_49 : decode cX4_copyFrom 49 = .ok (.bipush 16, 2) := by decide +kernel
theorem dX4_copyFrom_51 : decode cX4_copyFrom 51 = .ok (.invokestatic 58, 3) := by decide +kernel
theorem dX4_copyFrom_54 : decode cX4_copyFrom 54 = .ok (.aload_n 1, 1) := by decide +kernel
theorem dX4_copyFrom_55 : decode cX4_copyFrom 55 = .ok (.getfield 22, 3) := by decide +kernel
theorem dX4_copyFrom_58 : decode cX4_copyFrom 58 = .ok (.iconst 0, 1) := by decide +kernel
theorem dX4_copyFrom_59 : decode cX4_copyFrom 59 = .ok (.aload_n 0, 1) := by decide +kernel
theorem dX4_copyFrom_60 : decode cX4_copyFrom 60 = .ok (.getfield 22, 3) := by decide +kernel
theorem dX4_copyFrom_63 : decode cX4_copyFrom 63 = .ok (.iconst 0, 1) := by decide +kernel
theorem dX4_copyFrom_64 : decode cX4_copyFrom 64 = .ok (.bipush 16, 2) := by decide +kernel
theorem dX4_copyFrom_66 : decode cX4_copyFrom 66 = .ok (.invokestatic 58, 3) := by decide +kernel
theorem dX4_copyFrom_69 : decode cX4_copyFrom 69 = .ok (.aload_n 1, 1) := by decide +kernel
theorem dX4_copyFrom_70 : decode cX4_copyFrom 70 = .ok (.getfield 25, 3) := by decide +kernel
theorem dX4_copyFrom_73 : decode cX4_copyFrom 73 = .ok (.iconst 0, 1) := by decide +kernel
theorem dX4_copyFrom_74 : decode cX4_copyFrom 74 = .ok (.aload_n 0, 1) := by decide +kernel
theorem dX4_copyFrom_75 : decode cX4_copyFrom 75 = .ok (.getfield 25, 3) := by decide +kernel
theorem dX4_copyFrom_78 : decode cX4_copyFrom 78 = .ok (.iconst 0, 1) := by decide +kernel
theorem dX4_copyFrom_79 : decode cX4_copyFrom 79 = .ok (.bipush 16, 2) := by decide +kernel
theorem dX4_copyFrom_81 : decode cX4_copyFrom 81 = .ok (.invokestatic 58, 3) := by decide +kernel
theorem dX4_copyFrom_84 : decode cX4_copyFrom 84 = .ok (.aload_n 1, 1) := by decide +kernel
theorem dX4_copyFrom_85 : decode cX4_copyFrom 85 = .ok (.getfield 28, 3) := by decide +kernel
theorem dX4_copyFrom_88 : decode cX4_copyFrom 88 = .ok (.iconst 0, 1) := by decide +kernel
theorem dX4_copyFrom_89 : decode cX4_copyFrom 89 = .ok (.aload_n 0, 1) := by decide +kernel
theorem dX4_copyFrom_90 : decode cX4_copyFrom 90 = .ok (.getfield 28, 3) := by decide +kernel
theorem dX4_copyFrom_93 : decode cX4_copyFrom 93 = .ok (.iconst 0, 1) := by decide +kernel
theorem dX4_copyFrom_94 : decode cX4_copyFrom 94 = .ok (.bipush 16, 2) := by decide +kernel
theorem dX4_copyFrom_96 : decode cX4_copyFrom 96 = .ok (.invokestatic 58, 3) := by decide +kernel
theorem dX4_copyFrom_99 : decode cX4_copyFrom 99 = .ok (.aload_n 1, 1) := by decide +kernel
theorem dX4_copyFrom_100 : decode cX4_copyFrom 100 = .ok (.getfield 31, 3) := by decide +kernel
theorem dX4_copyFrom_103 : decode cX4_copyFrom 103 = .ok (.iconst 0, 1) := by decide +kernel
theorem dX4_copyFrom_104 : decode cX4_copyFrom 104 = .ok (.aload_n 0, 1) := by decide +kernel
theorem dX4_copyFrom_105 : decode cX4_copyFrom 105 = .ok (.getfield 31, 3) := by decide +kernel
theorem dX4_copyFrom_108 : decode cX4_copyFrom 108 = .ok (.iconst 0, 1) := by decide +kernel
theorem dX4_copyFrom_109 : decode cX4_copyFrom 109 = .ok (.bipush 9, 2) := by decide +kernel
theorem dX4_copyFrom_111 : decode cX4_copyFrom 111 = .ok (.invokestatic 58, 3) := by decide +kernel
theorem dX4_copyFrom_114 : decode cX4_copyFrom 114 = .ok (.aload_n 1, 1) := by decide +kernel
theorem dX4_copyFrom_115 : decode cX4_copyFrom 115 = .ok (.getfield 34, 3) := by decide +kernel
theorem dX4_copyFrom_118 : decode cX4_copyFrom 118 = .ok (.iconst 0, 1) := by decide +kernel
theorem dX4_copyFrom_119 : decode cX4_copyFrom 119 = .ok (.aload_n 0, 1) := by decide +kernel
theorem dX4_copyFrom_120 : decode cX4_copyFrom 120 = .ok (.getfield 34, 3) := by decide +kernel
theorem dX4_copyFrom_123 : decode cX4_copyFrom 123 = .ok (.iconst 0, 1) := by decide +kernel
theorem dX4_copyFrom_124 : decode cX4_copyFrom 124 = .ok (.bipush 9, 2) := by decide +kernel
theorem dX4_copyFrom_126 : decode cX4_copyFrom 126 = .ok (.invokestatic 58, 3) := by decide +kernel
theorem dX4_copyFrom_129 : decode cX4_copyFrom 129 = .ok (.aload_n 1, 1) := by decide +kernel
theorem dX4_copyFrom_130 : decode cX4_copyFrom 130 = .ok (.getfield 37, 3) := by decide +kernel
theorem dX4_copyFrom_133 : decode cX4_copyFrom 133 = .ok (.iconst 0, 1) := by decide +kernel
theorem dX4_copyFrom_134 : decode cX4_copyFrom 134 = .ok (.aload_n 0, 1) := by decide +kernel
theorem dX4_copyFrom_135 : decode cX4_copyFrom 135 = .ok (.getfield 37, 3) := by decide +kernel
theorem dX4_copyFrom_138 : decode cX4_copyFrom 138 = .ok (.iconst 0, 1) := by decide +kernel
theorem dX4_copyFrom_139 : decode cX4_copyFrom 139 = .ok (.bipush 9, 2) := by decide +kernel
theorem dX4_copyFrom_141 : decode cX4_copyFrom 141 = .ok (.invokestatic 58, 3) := by decide +kernel
theorem dX4_copyFrom_144 : decode cX4_copyFrom 144 = .ok (.aload_n 1, 1) := by decide +kernel
theorem dX4_copyFrom_145 : decode cX4_copyFrom 145 = .ok (.getfield 40, 3) := by decide +kernel
theorem dX4_copyFrom_148 : decode cX4_copyFrom 148 = .ok (.iconst 0, 1) := by decide +kernel
theorem dX4_copyFrom_149 : decode cX4_copyFrom 149 = .ok (.aload_n 0, 1) := by decide +kernel
theorem dX4_copyFrom_150 : decode cX4_copyFrom 150 = .ok (.getfield 40, 3) := by decide +kernel
theorem dX4_copyFrom_153 : decode cX4_copyFrom 153 = .ok (.iconst 0, 1) := by decide +kernel
theorem dX4_copyFrom_154 : decode cX4_copyFrom 154 = .ok (.bipush 9, 2) := by decide +kernel
theorem dX4_copyFrom_156 : decode cX4_copyFrom 156 = .ok (.invokestatic 58, 3) := by decide +kernel
theorem dX4_copyFrom_159 : decode cX4_copyFrom 159 = .ok (.aload_n 1, 1) := by decide +kernel
theorem dX4_copyFrom_160 : decode cX4_copyFrom 160 = .ok (.getfield 43, 3) := by decide +kernel
theorem dX4_copyFrom_163 : decode cX4_copyFrom 163 = .ok (.iconst 0, 1) := by decide +kernel
theorem dX4_copyFrom_164 : decode cX4_copyFrom 164 = .ok (.aload_n 0, 1) := by decide +kernel
theorem dX4_copyFrom_165 : decode cX4_copyFrom 165 = .ok (.getfield 43, 3) := by decide +kernel
theorem dX4_copyFrom_168 : decode cX4_copyFrom 168 = .ok (.iconst 0, 1) := by decide +kernel
theorem dX4_copyFrom_169 : decode cX4_copyFrom 169 = .ok (.bipush 9, 2) := by decide +kernel
theorem dX4_copyFrom_171 : decode cX4_copyFrom 171 = .ok (.invokestatic 58, 3) := by decide +kernel
theorem dX4_copyFrom_174 : decode cX4_copyFrom 174 = .ok (.aload_n 1, 1) := by decide +kernel
theorem dX4_copyFrom_175 : decode cX4_copyFrom 175 = .ok (.getfield 46, 3) := by decide +kernel
theorem dX4_copyFrom_178 : decode cX4_copyFrom 178 = .ok (.iconst 0, 1) := by decide +kernel
theorem dX4_copyFrom_179 : decode cX4_copyFrom 179 = .ok (.aload_n 0, 1) := by decide +kernel
theorem dX4_copyFrom_180 : decode cX4_copyFrom 180 = .ok (.getfield 46, 3) := by decide +kernel
theorem dX4_copyFrom_183 : decode cX4_copyFrom 183 = .ok (.iconst 0, 1) := by decide +kernel
theorem dX4_copyFrom_184 : decode cX4_copyFrom 184 = .ok (.bipush 9, 2) := by decide +kernel
theorem dX4_copyFrom_186 : decode cX4_copyFrom 186 = .ok (.invokestatic 58, 3) := by decide +kernel
theorem dX4_copyFrom_189 : decode cX4_copyFrom 189 = .ok (.aload_n 1, 1) := by decide +kernel
theorem dX4_copyFrom_190 : decode cX4_copyFrom 190 = .ok (.getfield 49, 3) := by decide +kernel
theorem dX4_copyFrom_193 : decode cX4_copyFrom 193 = .ok (.iconst 0, 1) := by decide +kernel
theorem dX4_copyFrom_194 : decode cX4_copyFrom 194 = .ok (.aload_n 0, 1) := by decide +kernel
theorem dX4_copyFrom_195 : decode cX4_copyFrom 195 = .ok (.getfield 49, 3) := by decide +kernel
theorem dX4_copyFrom_198 : decode cX4_copyFrom 198 = .ok (.iconst 0, 1) := by decide +kernel
theorem dX4_copyFrom_199 : decode cX4_copyFrom 199 = .ok (.bipush 9, 2) := by decide +kernel
theorem dX4_copyFrom_201 : decode cX4_copyFrom 201 = .ok (.invokestatic 58, 3) := by decide +kernel
theorem dX4_copyFrom_204 : decode cX4_copyFrom 204 = .ok (.return_, 1) := by decide +kernel
theorem dX4_metricOf_0 : decode cX4_metricOf 0 = .ok (.iconst 0, 1) := by decide +kernel
theorem dX4_metricOf_1 : decode cX4_metricOf 1 = .ok (.istore_n 2, 1) := by decide +kernel
theorem dX4_metricOf_2 : decode cX4_metricOf 2 = .ok (.iconst 0, 1) := by decide +kernel
theorem dX4_metricOf_3 : decode cX4_metricOf 3 = .ok (.istore_n 3, 1) := by decide +kernel
theorem dX4_metricOf_4 : decode cX4_metricOf 4 = .ok (.iload_n 3, 1) := by decide +kernel
theorem dX4_metricOf_5 : decode cX4_metricOf 5 = .ok (.aload_n 0, 1) := by decide +kernel
theorem dX4_metricOf_6 : decode cX4_metricOf 6 = .ok (.getfield 52, 3) := by decide +kernel
theorem dX4_metricOf_9 : decode cX4_metricOf 9 = .ok (.if_icmp .ge 26, 3) := by decide +kernel
theorem dX4_metricOf_12 : decode cX4_metricOf 12 = .ok (.iload_n 1, 1) := by decide +kernel
theorem dX4_metricOf_13 : decode cX4_metricOf 13 = .ok (.iload_n 3, 1) := by decide +kernel
theorem dX4_metricOf_14 : decode cX4_metricOf 14 = .ok (.iushr, 1) := by decide +kernel
theorem dX4_metricOf_15 : decode cX4_metricOf 15 = .ok (.iconst 1, 1) := by decide +kernel
theorem dX4_metricOf_16 : decode cX4_metricOf 16 = .ok (.iand, 1) := by decide +kernel
theorem dX4_metricOf_17 : decode cX4_metricOf 17 = .ok (.ifCond .eq 12, 3) := by decide +kernel
theorem dX4_metricOf_20 : decode cX4_metricOf 20 = .ok (.iload_n 2, 1) := by decide +kernel
theorem dX4_metricOf_21 : decode cX4_metricOf 21 = .ok (.aload_n 0, 1) := by decide +kernel
theorem dX4_metricOf_22 : decode cX4_metricOf 22 = .ok (.getfield 22, 3) := by decide +kernel
theorem dX4_metricOf_25 : decode cX4_metricOf 25 = .ok (.iload_n 3, 1) := by decide +kernel
theorem dX4_metricOf_26 : decode cX4_metricOf 26 = .ok (.iaload, 1) := by decide +kernel
theorem dX4_metricOf_27 : decode cX4_metricOf 27 = .ok (.iadd, 1) := by decide +kernel
theorem dX4_metricOf_28 : decode cX4_metricOf 28 = .ok (.istore_n 2, 1) := by decide +kernel
theorem dX4_metricOf_29 : decode cX4_metricOf 29 = .ok (.iinc 3 1, 3) := by decide +kernel
theorem dX4_metricOf_32 : decode cX4_metricOf 32 = .ok (.goto (-28), 3) := by decide +kernel
theorem dX4_metricOf_35 : decode cX4_metricOf 35 = .ok (.iload_n 2, 1) := by decide +kernel
theorem dX4_metricOf_36 : decode cX4_metricOf 36 = .ok (.ireturn, 1) := by decide +kernel
theorem dX4_linkAt_0 : decode cX4_linkAt 0 = .ok (.iload_n 2, 1) := by decide +kernel
theorem dX4_linkAt_1 : decode cX4_linkAt 1 = .ok (.istore 4, 2) := by decide +kernel
theorem dX4_linkAt_3 : decode cX4_linkAt 3 = .ok (.iconst 0, 1) := by decide +kernel
theorem dX4_linkAt_4 : decode cX4_linkAt 4 = .ok (.istore 5, 2) := by decide +kernel
theorem dX4_linkAt_6 : decode cX4_linkAt 6 = .ok (.iload 5, 2) := by decide +kernel
theorem dX4_linkAt_8 : decode cX4_linkAt 8 = .ok (.bipush 7, 2) := by decide +kernel
theorem dX4_linkAt_10 : decode cX4_linkAt 10 = .ok (.if_icmp .ge 42, 3) := by decide +kernel
theorem dX4_linkAt_13 : decode cX4_linkAt 13 = .ok (.aload_n 0, 1) := by decide +kernel
theorem dX4_linkAt_14 : decode cX4_linkAt 14 = .ok (.iload_n 1, 1) := by decide +kernel
theorem dX4_linkAt_15 : decode cX4_linkAt 15 = .ok (.iload 4, 2) := by decide +kernel
theorem dX4_linkAt_17 : decode cX4_linkAt 17 = .ok (.invokevirtual 64, 3) := by decide +kernel
theorem dX4_linkAt_20 : decode cX4_linkAt 20 = .ok (.istore 6, 2) := by decide +kernel
theorem dX4_linkAt_22 : decode cX4_linkAt 22 = .ok (.iload 6, 2) := by decide +kernel
theorem dX4_linkAt_24 : decode cX4_linkAt 24 = .ok (.iconst (-1), 1) := by decide +kernel
theorem dX4_linkAt_25 : decode cX4_linkAt 25 = .ok (.if_icmp .eq 9, 3) := by decide +kernel
theorem dX4_linkAt_28 : decode cX4_linkAt 28 = .ok (.iload 5, 2) := by decide +kernel
theorem dX4_linkAt_30 : decode cX4_linkAt 30 = .ok (.iload_n 3, 1) := by decide +kernel
theorem dX4_linkAt_31 : decode cX4_linkAt 31 = .ok (.if_icmp .ne 6, 3) := by decide +kernel
theorem dX4_linkAt_34 : decode cX4_linkAt 34 = .ok (.iload 6, 2) := by decide +kernel
theorem dX4_linkAt_36 : decode cX4_linkAt 36 = .ok (.ireturn, 1) := by decide +kernel
theorem dX4_linkAt_37 : decode cX4_linkAt 37 = .ok (.aload_n 0, 1) := by decide +kernel
theorem dX4_linkAt_38 : decode cX4_linkAt 38 = .ok (.getfield 19, 3) := by decide +kernel
theorem dX4_linkAt_41 : decode cX4_linkAt 41 = .ok (.iload 6, 2) := by decide +kernel
theorem dX4_linkAt_43 : decode cX4_linkAt 43 = .ok (.iaload, 1) := by decide +kernel
theorem dX4_linkAt_44 : decode cX4_linkAt 44 = .ok (.istore 4, 2) := by decide +kernel
theorem dX4_linkAt_46 : decode cX4_linkAt 46 = .ok (.iinc 5 1, 3) := by decide +kernel
theorem dX4_linkAt_49 : decode cX4_linkAt 49 = .ok (.goto (-43), 3) := by decide +kernel
theorem dX4_linkAt_52 : decode cX4_linkAt 52 = .ok (.iconst (-1), 1) := by decide +kernel
theorem dX4_linkAt_53 : decode cX4_linkAt 53 = .ok (.ireturn, 1) := by decide +kernel
theorem dX4_linkFrom_0 : decode cX4_linkFrom 0 = .ok (.iconst 0, 1) := by decide +kernel
theorem dX4_linkFrom_1 : decode cX4_linkFrom 1 = .ok (.istore_n 3, 1) := by decide +kernel
theorem dX4_linkFrom_2 : decode cX4_linkFrom 2 = .ok (.iload_n 3, 1) := by decide +kernel
theorem dX4_linkFrom_3 : decode cX4_linkFrom 3 = .ok (.aload_n 0, 1) := by decide +kernel
theorem dX4_linkFrom_4 : decode cX4_linkFrom 4 = .ok (.getfield 52, 3) := by decide +kernel
theorem dX4_linkFrom_7 : decode cX4_linkFrom 7 = .ok (.if_icmp .ge 29, 3) := by decide +kernel
theorem dX4_linkFrom_10 : decode cX4_linkFrom 10 = .ok (.iload_n 1, 1) := by decide +kernel
theorem dX4_linkFrom_11 : decode cX4_linkFrom 11 = .ok (.iload_n 3, 1) := by decide +kernel
theorem dX4_linkFrom_12 : decode cX4_linkFrom 12 = .ok (.iushr, 1) := by decide +kernel
theorem dX4_linkFrom_13 : decode cX4_linkFrom 13 = .ok (.iconst 1, 1) := by decide +kernel
theorem dX4_linkFrom_14 : decode cX4_linkFrom 14 = .ok (.iand, 1) := by decide +kernel
theorem dX4_linkFrom_15 : decode cX4_linkFrom 15 = .ok (.ifCond .eq 15, 3) := by decide +kernel
theorem dX4_linkFrom_18 : decode cX4_linkFrom 18 = .ok (.aload_n 0, 1) := by decide +kernel
theorem dX4_linkFrom_19 : decode cX4_linkFrom 19 = .ok (.getfield 15, 3) := by decide +kernel
theorem dX4_linkFrom_22 : decode cX4_linkFrom 22 = .ok (.iload_n 3, 1) := by decide +kernel
theorem dX4_linkFrom_23 : decode cX4_linkFrom 23 = .ok (.iaload, 1) := by decide +kernel
theorem dX4_linkFrom_24 : decode cX4_linkFrom 24 = .ok (.iload_n 2, 1) := by decide +kernel
theorem dX4_linkFrom_25 : decode cX4_linkFrom 25 = .ok (.if_icmp .ne 5, 3) := by decide +kernel
theorem dX4_linkFrom_28 : decode cX4_linkFrom 28 = .ok (.iload_n 3, 1) := by decide +kernel
theorem dX4_linkFrom_29 : decode cX4_linkFrom 29 = .ok (.ireturn, 1) := by decide +kernel
theorem dX4_linkFrom_30 : decode cX4_linkFrom 30 = .ok (.iinc 3 1, 3) := by decide +kernel
theorem dX4_linkFrom_33 : decode cX4_linkFrom 33 = .ok (.goto (-31), 3) := by decide +kernel
theorem dX4_linkFrom_36 : decode cX4_linkFrom 36 = .ok (.iconst (-1), 1) := by decide +kernel
theorem dX4_linkFrom_37 : decode cX4_linkFrom 37 = .ok (.ireturn, 1) := by decide +kernel
theorem dX5_init_0 : decode cX5_init 0 = .ok (.aload_n 0, 1) := by decide +kernel
theorem dX5_init_1 : decode cX5_init 1 = .ok (.invokespecial 3, 3) := by decide +kernel
theorem dX5_init_4 : decode cX5_init 4 = .ok (.aload_n 0, 1) := by decide +kernel
theorem dX5_init_5 : decode cX5_init 5 = .ok (.iconst 0, 1) := by decide +kernel
theorem dX5_init_6 : decode cX5_init 6 = .ok (.newarray .byte, 2) := by decide +kernel
theorem dX5_init_8 : decode cX5_init 8 = .ok (.putfield 9, 3) := by decide +kernel
theorem dX5_init_11 : decode cX5_init 11 = .ok (.aload_n 0, 1) := by decide +kernel
theorem dX5_init_12 : decode cX5_init 12 = .ok (.iconst (-1), 1) := by decide +kernel
theorem dX5_init_13 : decode cX5_init 13 = .ok (.putfield 15, 3) := by decide +kernel
theorem dX5_init_16 : decode cX5_init 16 = .ok (.return_, 1) := by decide +kernel
theorem dX5_read_0 : decode cX5_read 0 = .ok (.aload_n 0, 1) := by decide +kernel
theorem dX5_read_1 : decode cX5_read 1 = .ok (.aload_n 1, 1) := by decide +kernel
theorem dX5_read_2 : decode cX5_read 2 = .ok (.putfield 9, 3) := by decide +kernel
theorem dX5_read_5 : decode cX5_read 5 = .ok (.aload_n 0, 1) := by decide +kernel
theorem dX5_read_6 : decode cX5_read 6 = .ok (.iload_n 2, 1) := by decide +kernel
theorem dX5_read_7 : decode cX5_read 7 = .ok (.aload_n 1, 1) := by decide +kernel
theorem dX5_read_8 : decode cX5_read 8 = .ok (.arraylength, 1) := by decide +kernel
theorem dX5_read_9 : decode cX5_read 9 = .ok (.invokestatic 19, 3) := by decide +kernel
theorem dX5_read_12 : decode cX5_read 12 = .ok (.putfield 25, 3) := by decide +kernel
theorem dX5_read_15 : decode cX5_read 15 = .ok (.aload_n 0, 1) := by decide +kernel
theorem dX5_read_16 : decode cX5_read 16 = .ok (.iconst 0, 1) := by decide +kernel
theorem dX5_read_17 : decode cX5_read 17 = .ok (.putfield 28, 3) := by decide +kernel
theorem dX5_read_20 : decode cX5_read 20 = .ok (.aload_n 0, 1) := by decide +kernel
theorem dX5_read_21 : decode cX5_read 21 = .ok (.iconst (-1), 1) := by decide +kernel
theorem dX5_read_22 : decode cX5_read 22 = .ok (.putfield 15, 3) := by decide +kernel
theorem dX5_read_25 : decode cX5_read 25 = .ok (.aload_n 0, 1) := by decide +kernel
theorem dX5_read_26 : decode cX5_read 26 = .ok (.iconst 0, 1) := by decide +kernel
theorem dX5_read_27 : decode cX5_read 27 = .ok (.putfield 31, 3) := by decide +kernel
theorem dX5_read_30 : decode cX5_read 30 = .ok (.aload_n 3, 1) := by decide +kernel
theorem dX5_read_31 : decode cX5_read 31 = .ok (.invokevirtual 34, 3) := by decide +kernel
theorem dX5_read_34 : decode cX5_read 34 = .ok (.aload_n 0, 1) := by decide +kernel
theorem dX5_read_35 : decode cX5_read 35 = .ok (.invokevirtual 39, 3) := by decide +kernel
theorem dX5_read_38 : decode cX5_read 38 = .ok (.aload_n 0, 1) := by decide +kernel
theorem dX5_read_39 : decode cX5_read 39 = .ok (.ldc 42, 2) := by decide +kernel
theorem dX5_read_41 : decode cX5_read 41 = .ok (.invokevirtual 44, 3) := by decide +kernel
theorem dX5_read_44 : decode cX5_read 44 = .ok (.ifCond .eq 22, 3) := by decide +kernel
theorem dX5_read_47 : decode cX5_read 47 = .ok (.aload_n 0, 1) := by decide +kernel
theorem dX5_read_48 : decode cX5_read 48 = .ok (.invokevirtual 39, 3) := by decide +kernel
theorem dX5_read_51 : decode cX5_read 51 = .ok (.aload_n 3, 1) := by decide +kernel
theorem dX5_read_52 : decode cX5_read 52 = .ok (.aload_n 0, 1) := by decide +kernel
theorem dX5_read_53 : decode cX5_read 53 = .ok (.iconst 2, 1) := by decide +kernel
theorem dX5_read_54 : decode cX5_read 54 = .ok (.bipush 8, 2) := by decide +kernel
theorem dX5_read_56 : decode cX5_read 56 = .ok (.invokevirtual 48, 3) := by decide +kernel
theorem dX5_read_59 : decode cX5_read 59 = .ok (.putfield 51, 3) := by decide +kernel
theorem dX5_read_62 : decode cX5_read 62 = .ok (.aload_n 0, 1) := by decide +kernel
theorem dX5_read_63 : decode cX5_read 63 = .ok (.invokevirtual 53, 3) := by decide +kernel
theorem dX5_read_66 : decode cX5_read 66 = .ok (.iconst 0, 1) := by decide +kernel
theorem dX5_read_67 : decode cX5_read 67 = .ok (.istore 4, 2) := by decide +kernel
theorem dX5_read_69 : decode cX5_read 69 = .ok (.iload 4, 2) := by decide +kernel
theorem dX5_read_71 : decode cX5_read 71 = .ok (.sipush 700, 3) := by decide +kernel
theorem dX5_read_74 : decode cX5_read 74 = .ok (.if_icmp .ge 70, 3) := by decide +kernel
theorem dX5_read_77 : decode cX5_read 77 = .ok (.aload_n 0, 1) := by decide +kernel
theorem dX5_read_78 : decode cX5_read 78 = .ok (.getfield 28, 3) := by decide +kernel
theorem dX5_read_81 : decode cX5_read 81 = .ok (.ifCond .ne 63, 3) := by decide +kernel
theorem dX5_read_84 : decode cX5_read 84 = .ok (.aload_n 0, 1) := by decide +kernel
theorem dX5_read_85 : decode cX5_read 85 = .ok (.getfield 56, 3) := by decide +kernel
theorem dX5_read_88 : decode cX5_read 88 = .ok (.ifCond .eq 56, 3) := by decide +kernel
theorem dX5_read_91 : decode cX5_read 91 = .ok (.aload_n 0, 1) := by decide +kernel
theorem dX5_read_92 : decode cX5_read 92 = .ok (.ldc 59, 2) := by decide +kernel
theorem dX5_read_94 : decode cX5_read 94 = .ok (.invokevirtual 44, 3) := by decide +kernel
theorem dX5_read_97 : decode cX5_read 97 = .ok (.ifCond .eq 15, 3) := by decide +kernel
theorem dX5_read_100 : decode cX5_read 100 = .ok (.aload_n 0, 1) := by decide +kernel
theorem dX5_read_101 : decode cX5_read 101 = .ok (.aload_n 3, 1) := by decide +kernel
theorem dX5_read_102 : decode cX5_read 102 = .ok (.aload_n 3, 1) := by decide +kernel
theorem dX5_read_103 : decode cX5_read 103 = .ok (.getfield 61, 3) := by decide +kernel
theorem dX5_read_106 : decode cX5_read 106 = .ok (.invokevirtual 64, 3) := by decide +kernel
theorem dX5_read_109 : decode cX5_read 109 = .ok (.goto 29, 3) := by decide +kernel
theorem dX5_read_112 : decode cX5_read 112 = .ok (.aload_n 0, 1) := by decide +kernel
theorem dX5_read_113 : decode cX5_read 113 = .ok (.ldc 68, 2) := by decide +kernel
theorem dX5_read_115 : decode cX5_read 115 = .ok (.invokevirtual 44, 3) := by decide +kernel
theorem dX5_read_118 : decode cX5_read 118 = .ok (.ifCond .eq 15, 3) := by decide +kernel
theorem dX5_read_121 : decode cX5_read 121 = .ok (.aload_n 0, 1) := by decide +kernel
theorem dX5_read_122 : decode cX5_read 122 = .ok (.aload_n 3, 1) := by decide +kernel
theorem dX5_read_123 : decode cX5_read 123 = .ok (.aload_n 3, 1) := by decide +kernel
theorem dX5_read_124 : decode cX5_read 124 = .ok (.getfield 70, 3) := by decide +kernel
theorem dX5_read_127 : decode cX5_read 127 = .ok (.invokevirtual 73, 3) := by decide +kernel
theorem dX5_read_130 : decode cX5_read 130 = .ok (.goto 8, 3) := by decide +kernel
theorem dX5_read_133 : decode cX5_read 133 = .ok (.aload_n 0, 1) := by decide +kernel
theorem dX5_read_134 : decode cX5_read 134 = .ok (.iconst 1, 1) := by decide +kernel
theorem dX5_read_135 : decode cX5_read 135 = .ok (.invokevirtual 76, 3) := by decide +kernel
theorem dX5_read_138 : decode cX5_read 138 = .ok (.iinc 4 1, 3) := by decide +kernel
theorem dX5_read_141 : decode cX5_read 141 = .ok (.goto (-72), 3) := by decide +kernel
theorem dX5_read_144 : decode cX5_read 144 = .ok (.aload_n 0, 1) := by decide +kernel
theorem dX5_read_145 : decode cX5_read 145 = .ok (.getfield 28, 3) := by decide +kernel
theorem dX5_read_148 : decode cX5_read 148 = .ok (.ireturn, 1) := by decide +kernel
theorem dX5_readLink_0 : decode cX5_readLink 0 = .ok (.iload_n 2, 1) := by decide +kernel
theorem dX5_readLink_1 : decode cX5_readLink 1 = .ok (.bipush 16, 2) := by decide +kernel
theorem dX5_readLink_3 : decode cX5_readLink 3 = .ok (.if_icmp .lt 9, 3) := by decide +kernel
theorem dX5_readLink_6 : decode cX5_readLink 6 = .ok (.aload_n 0, 1) := by decide +kernel
theorem dX5_readLink_7 : decode cX5_readLink 7 = .ok (.iconst 2, 1) := by decide +kernel
theorem dX5_readLink_8 : decode cX5_readLink 8 = .ok (.invokevirtual 76, 3) := by decide +kernel
theorem dX5_readLink_11 : decode cX5_readLink 11 = .ok (.return_, 1) := by decide +kernel
theorem dX5_readLink_12 : decode cX5_readLink 12 = .ok (.aload_n 0, 1) := by decide +kernel
theorem dX5_readLink_13 : decode cX5_readLink 13 = .ok (.invokevirtual 39, 3) := by decide +kernel
theorem dX5_readLink_16 : decode cX5_readLink 16 = .ok (.aload_n 1, 1) := by decide +kernel
theorem dX5_readLink_17 : decode cX5_readLink 17 = .ok (.getfield 80, 3) := by decide +kernel
theorem dX5_readLink_20 : decode cX5_readLink 20 = .ok (.iload_n 2, 1) := by decide +kernel
theorem dX5_readLink_21 : decode cX5_readLink 21 = .ok (.aload_n 0, 1) := by decide +kernel
theorem dX5_readLink_22 : decode cX5_readLink 22 = .ok (.aload_n 1, 1) := by decide +kernel
theorem dX5_readLink_23 : decode cX5_readLink 23 = .ok (.getfield 51, 3) := by decide +kernel
theorem dX5_readLink_26 : decode cX5_readLink 26 = .ok (.iconst (-1), 1) := by decide +kernel
theorem dX5_readLink_27 : decode cX5_readLink 27 = .ok (.invokevirtual 84, 3) := by decide +kernel
theorem dX5_readLink_30 : decode cX5_readLink 30 = .ok (.iastore, 1) := by decide +kernel
theorem dX5_readLink_31 : decode cX5_readLink 31 = .ok (.aload_n 1, 1) := by decide +kernel
theorem dX5_readLink_32 : decode cX5_readLink 32 = .ok (.getfield 87, 3) := by decide +kernel
theorem dX5_readLink_35 : decode cX5_readLink 35 = .ok (.iload_n 2, 1) := by decide +kernel
theorem dX5_readLink_36 : decode cX5_readLink 36 = .ok (.aload_n 0, 1) := by decide +kernel
theorem dX5_readLink_37 : decode cX5_readLink 37 = .ok (.aload_n 1, 1) := by decide +kernel
theorem dX5_readLink_38 : decode cX5_readLink 38 = .ok (.getfield 51, 3) := by decide +kernel
theorem dX5_readLink_41 : decode cX5_readLink 41 = .ok (.aload_n 1, 1) := by decide +kernel
theorem dX5_readLink_42 : decode cX5_readLink 42 = .ok (.getfield 80, 3) := by decide +kernel
theorem dX5_readLink_45 : decode cX5_readLink 45 = .ok (.iload_n 2, 1) := by decide +kernel
theorem dX5_readLink_46 : decode cX5_readLink 46 = .ok (.iaload, 1) := by decide +kernel
theorem dX5_readLink_47 : decode cX5_readLink 47 = .ok (.invokevirtual 84, 3) := by decide +kernel
theorem dX5_readLink_50 : decode cX5_readLink 50 = .ok (.iastore, 1) := by decide +kernel
theorem dX5_readLink_51 : decode cX5_readLink 51 = .ok (.aload_n 1, 1) := by decide +kernel
theorem dX5_readLink_52 : decode cX5_readLink 52 = .ok (.getfield 90, 3) := by decide +kernel
theorem dX5_readLink_55 : decode cX5_readLink 55 = .ok (.iload_n 2, 1) := by decide +kernel
theorem dX5_readLink_56 : decode cX5_readLink 56 = .ok (.aload_n 0, 1) := by decide +kernel
theorem dX5_readLink_57 : decode cX5_readLink 57 = .ok (.iconst 1, 1) := by decide +kernel
theorem dX5_readLink_58 : decode cX5_readLink 58 = .ok (.bipush 99, 2) := by decide +kernel
theorem dX5_readLink_60 : decode cX5_readLink 60 = .ok (.invokevirtual 48, 3) := by decide +kernel
theorem dX5_readLink_63 : decode cX5_readLink 63 = .ok (.iastore, 1) := by decide +kernel
theorem dX5_readLink_64 : decode cX5_readLink 64 = .ok (.aload_n 1, 1) := by decide +kernel
theorem dX5_readLink_65 : decode cX5_readLink 65 = .ok (.getfield 93, 3) := by decide +kernel
theorem dX5_readLink_68 : decode cX5_readLink 68 = .ok (.iload_n 2, 1) := by decide +kernel
theorem dX5_readLink_69 : decode cX5_readLink 69 = .ok (.aload_n 0, 1) := by decide +kernel
theorem dX5_readLink_70 : decode cX5_readLink 70 = .ok (.iconst 1, 1) := by decide +kernel
theorem dX5_readLink_71 : decode cX5_readLink 71 = .ok (.bipush 99, 2) := by decide +kernel
theorem dX5_readLink_73 : decode cX5_readLink 73 = .ok (.invokevirtual 48, 3) := by decide +kernel
theorem dX5_readLink_76 : decode cX5_readLink 76 = .ok (.iastore, 1) := by decide +kernel
theorem dX5_readLink_77 : decode cX5_readLink 77 = .ok (.aload_n 1, 1) := by decide +kernel
theorem dX5_readLink_78 : decode cX5_readLink 78 = .ok (.getfield 96, 3) := by decide +kernel
theorem dX5_readLink_81 : decode cX5_readLink 81 = .ok (.iload_n 2, 1) := by decide +kernel
theorem dX5_readLink_82 : decode cX5_readLink 82 = .ok (.aload_n 0, 1) := by decide +kernel
theorem dX5_readLink_83 : decode cX5_readLink 83 = .ok (.getfield 56, 3) := by decide +kernel
theorem dX5_readLink_86 : decode cX5_readLink 86 = .ok (.iconst 2, 1) := by decide +kernel
theorem dX5_readLink_87 : decode cX5_readLink 87 = .ok (.if_icmp .ne 13, 3) := by decide +kernel
theorem dX5_readLink_90 : decode cX5_readLink 90 = .ok (.aload_n 0, 1) := by decide +kernel
theorem dX5_readLink_91 : decode cX5_readLink 91 = .ok (.iconst 0, 1) := by decide +kernel
theorem dX5_readLink_92 : decode cX5_readLink 92 = .ok (.bipush 15, 2) := by decide +kernel
theorem dX5_readLink_94 : decode cX5_readLink 94 = .ok (.invokevirtual 48, 3) := by decide +kernel
theorem dX5_readLink_97 : decode cX5_readLink 97 = .ok (.goto 4, 3) := by decide +kernel
theorem dX5_readLink_100 : decode cX5_readLink 100 = .ok (.iconst 0, 1) := by decide +kernel
theorem dX5_readLink_101 : decode cX5_readLink 101 = .ok (.iastore, 1) := by decide +kernel
theorem dX5_readLink_102 : decode cX5_readLink 102 = .ok (.aload_n 0, 1) := by decide +kernel
theorem dX5_readLink_103 : decode cX5_readLink 103 = .ok (.invokevirtual 53, 3) := by decide +kernel
theorem dX5_readLink_106 : decode cX5_readLink 106 = .ok (.aload_n 1, 1) := by decide +kernel
theorem dX5_readLink_107 : decode cX5_readLink 107 = .ok (.iload_n 2, 1) := by decide +kernel
theorem dX5_readLink_108 : decode cX5_readLink 108 = .ok (.iconst 1, 1) := by decide +kernel
theorem dX5_readLink_109 : decode cX5_readLink 109 = .ok (.iadd, 1) := by decide +kernel
theorem dX5_readLink_110 : decode cX5_readLink 110 = .ok (.putfield 61, 3) := by decide +kernel
theorem dX5_readLink_113 : decode cX5_readLink 113 = .ok (.return_, 1) := by decide +kernel
theorem dX5_readTunnel_0 : decode cX5_readTunnel 0 = .ok (.iload_n 2, 1) := by decide +kernel
theorem dX5_readTunnel_1 : decode cX5_readTunnel 1 = .ok (.bipush 9, 2) := by decide +kernel
theorem dX5_readTunnel_3 : decode cX5_readTunnel 3 = .ok (.if_icmp .lt 9, 3) := by decide +kernel
theorem dX5_readTunnel_6 : decode cX5_readTunnel 6 = .ok (.aload_n 0, 1) := by decide +kernel
theorem dX5_readTunnel_7 : decode cX5_readTunnel 7 = .ok (.iconst 2, 1) := by decide +kernel
theorem dX5_readTunnel_8 : decode cX5_readTunnel 8 = .ok (.invokevirtual 76, 3) := by decide +kernel
theorem dX5_readTunnel_11 : decode cX5_readTunnel 11 = .ok (.return_, 1) := by decide +kernel
theorem dX5_readTunnel_12 : decode cX5_readTunnel 12 = .ok (.aload_n 0, 1) := by decide +kernel
theorem dX5_readTunnel_13 : decode cX5_readTunnel 13 = .ok (.invokevirtual 39, 3) := by decide +kernel
theorem dX5_readTunnel_16 : decode cX5_readTunnel 16 = .ok (.aload_n 1, 1) := by decide +kernel
theorem dX5_readTunnel_17 : decode cX5_readTunnel 17 = .ok (.getfield 99, 3) := by decide +kernel
theorem dX5_readTunnel_20 : decode cX5_readTunnel 20 = .ok (.iload_n 2, 1) := by decide +kernel
theorem dX5_readTunnel_21 : decode cX5_readTunnel 21 = .ok (.aload_n 0, 1) := by decide +kernel
theorem dX5_readTunnel_22 : decode cX5_readTunnel 22 = .ok (.aload_n 1, 1) := by decide +kernel
theorem dX5_readTunnel_23 : decode cX5_readTunnel 23 = .ok (.getfield 51, 3) := by decide +kernel
theorem dX5_readTunnel_26 : decode cX5_readTunnel 26 = .ok (.iconst (-1), 1) := by decide +kernel
theorem dX5_readTunnel_27 : decode cX5_readTunnel 27 = .ok (.invokevirtual 84, 3) := by decide +kernel
theorem dX5_readTunnel_30 : decode cX5_readTunnel 30 = .ok (.iastore, 1) := by decide +kernel
theorem dX5_readTunnel_31 : decode cX5_readTunnel 31 = .ok (.aload_n 1, 1) := by decide +kernel
theorem dX5_readTunnel_32 : decode cX5_readTunnel 32 = .ok (.getfield 102, 3) := by decide +kernel
theorem dX5_readTunnel_35 : decode cX5_readTunnel 35 = .ok (.iload_n 2, 1) := by decide +kernel
theorem dX5_readTunnel_36 : decode cX5_readTunnel 36 = .ok (.aload_n 0, 1) := by decide +kernel
theorem dX5_readTunnel_37 : decode cX5_readTunnel 37 = .ok (.aload_n 1, 1) := by decide +kernel
theorem dX5_readTunnel_38 : decode cX5_readTunnel 38 = .ok (.getfield 51, 3) := by decide +kernel
theorem dX5_readTunnel_41 : decode cX5_readTunnel 41 = .ok (.aload_n 1, 1) := by decide +kernel
theorem dX5_readTunnel_42 : decode cX5_readTunnel 42 = .ok (.getfield 99, 3) := by decide +kernel
theorem dX5_readTunnel_45 : decode cX5_readTunnel 45 = .ok (.iload_n 2, 1) := by decide +kernel
theorem dX5_readTunnel_46 : decode cX5_readTunnel 46 = .ok (.iaload, 1) := by decide +kernel
theorem dX5_readTunnel_47 : decode cX5_readTunnel 47 = .ok (.invokevirtual 84, 3) := by decide +kernel
theorem dX5_readTunnel_50 : decode cX5_readTunnel 50 = .ok (.iastore, 1) := by decide +kernel
theorem dX5_readTunnel_51 : decode cX5_readTunnel 51 = .ok (.aload_n 1, 1) := by decide +kernel
theorem dX5_readTunnel_52 : decode cX5_readTunnel 52 = .ok (.getfield 105, 3) := by decide +kernel
theorem dX5_readTunnel_55 : decode cX5_readTunnel 55 = .ok (.iload_n 2, 1) := by decide +kernel
theorem dX5_readTunnel_56 : decode cX5_readTunnel 56 = .ok (.aload_n 0, 1) := by decide +kernel
theorem dX5_readTunnel_57 : decode cX5_readTunnel 57 = .ok (.iconst 1, 1) := by decide +kernel
theorem dX5_readTunnel_58 : decode cX5_readTunnel 58 = .ok (.bipush 99, 2) := by decide +kernel
theorem dX5_readTunnel_60 : decode cX5_readTunnel 60 = .ok (.invokevirtual 48, 3) := by decide +kernel
theorem dX5_readTunnel_63 : decode cX5_readTunnel 63 = .ok (.iastore, 1) := by decide +kernel
theorem dX5_readTunnel_64 : decode cX5_readTunnel 64 = .ok (.aload_n 1, 1) := by decide +kernel
theorem dX5_readTunnel_65 : decode cX5_readTunnel 65 = .ok (.getfield 108, 3) := by decide +kernel
theorem dX5_readTunnel_68 : decode cX5_readTunnel 68 = .ok (.iload_n 2, 1) := by decide +kernel
theorem dX5_readTunnel_69 : decode cX5_readTunnel 69 = .ok (.aload_n 0, 1) := by decide +kernel
theorem dX5_readTunnel_70 : decode cX5_readTunnel 70 = .ok (.iconst 0, 1) := by decide +kernel
theorem dX5_readTunnel_71 : decode cX5_readTunnel 71 = .ok (.bipush 7, 2) := by decide +kernel
theorem dX5_readTunnel_73 : decode cX5_readTunnel 73 = .ok (.invokevirtual 48, 3) := by decide +kernel
theorem dX5_readTunnel_76 : decode cX5_readTunnel 76 = .ok (.iastore, 1) := by decide +kernel
theorem dX5_readTunnel_77 : decode cX5_readTunnel 77 = .ok (.aload_n 1, 1) := by decide +kernel
theorem dX5_readTunnel_78 : decode cX5_readTunnel 78 = .ok (.getfield 111, 3) := by decide +kernel
theorem dX5_readTunnel_81 : decode cX5_readTunnel 81 = .ok (.iload_n 2, 1) := by decide +kernel
theorem dX5_readTunnel_82 : decode cX5_readTunnel 82 = .ok (.aload_n 0, 1) := by decide +kernel
theorem dX5_readTunnel_83 : decode cX5_readTunnel 83 = .ok (.iconst 0, 1) := by decide +kernel
theorem dX5_readTunnel_84 : decode cX5_readTunnel 84 = .ok (.aload_n 1, 1) := by decide +kernel
theorem dX5_readTunnel_85 : decode cX5_readTunnel 85 = .ok (.getfield 108, 3) := by decide +kernel
theorem dX5_readTunnel_88 : decode cX5_readTunnel 88 = .ok (.iload_n 2, 1) := by decide +kernel
theorem dX5_readTunnel_89 : decode cX5_readTunnel 89 = .ok (.iaload, 1) := by decide +kernel
theorem dX5_readTunnel_90 : decode cX5_readTunnel 90 = .ok (.invokevirtual 48, 3) := by decide +kernel
theorem dX5_readTunnel_93 : decode cX5_readTunnel 93 = .ok (.iastore, 1) := by decide +kernel
theorem dX5_readTunnel_94 : decode cX5_readTunnel 94 = .ok (.aload_n 0, 1) := by decide +kernel
theorem dX5_readTunnel_95 : decode cX5_readTunnel 95 = .ok (.getfield 56, 3) := by decide +kernel
theorem dX5_readTunnel_98 : decode cX5_readTunnel 98 = .ok (.iconst 2, 1) := by decide +kernel
theorem dX5_readTunnel_99 : decode cX5_readTunnel 99 = .ok (.if_icmp .ne 7, 3) := by decide +kernel
theorem dX5_readTunnel_102 : decode cX5_readTunnel 102 = .ok (.iconst 1, 1) := by decide +kernel
theorem dX5_readTunnel_103 : decode cX5_readTunnel 103 = .ok (.goto 4, 3) := by decide +kernel
theorem dX5_readTunnel_106 : decode cX5_readTunnel 106 = .ok (.iconst 0, 1) := by decide +kernel
theorem dX5_readTunnel_107 : decode cX5_readTunnel 107 = .ok (.istore_n 3, 1) := by decide +kernel
theorem dX5_readTunnel_108 : decode cX5_readTunnel 108 = .ok (.aload_n 1, 1) := by decide +kernel
theorem dX5_readTunnel_109 : decode cX5_readTunnel 109 = .ok (.getfield 114, 3) := by decide +kernel
theorem dX5_readTunnel_112 : decode cX5_readTunnel 112 = .ok (.iload_n 2, 1) := by decide +kernel
theorem dX5_readTunnel_113 : decode cX5_readTunnel 113 = .ok (.iload_n 3, 1) := by decide +kernel
theorem dX5_readTunnel_114 : decode cX5_readTunnel 114 = .ok (.ifCond .eq 13, 3) := by decide +kernel
theorem dX5_readTunnel_117 : decode cX5_readTunnel 117 = .ok (.aload_n 0, 1) := by decide +kernel
theorem dX5_readTunnel_118 : decode cX5_readTunnel 118 = .ok (.iconst 0, 1) := by decide +kernel
theorem dX5_readTunnel_119 : decode cX5_readTunnel 119 = .ok (.bipush 15, 2) := by decide +kernel
theorem dX5_readTunnel_121 : decode cX5_readTunnel 121 = .ok (.invokevirtual 48, 3) := by decide +kernel
theorem dX5_readTunnel_124 : decode cX5_readTunnel 124 = .ok (.goto 4, 3) := by decide +kernel
theorem dX5_readTunnel_127 : decode cX5_readTunnel 127 = .ok (.iconst 0, 1) := by decide +kernel
theorem dX5_readTunnel_128 : decode cX5_readTunnel 128 = .ok (.iastore, 1) := by decide +kernel
theorem dX5_readTunnel_129 : decode cX5_readTunnel 129 = .ok (.aload_n 1, 1) := by decide +kernel
theorem dX5_readTunnel_130 : decode cX5_readTunnel 130 = .ok (.getfield 117, 3) := by decide +kernel
theorem dX5_readTunnel_133 : decode cX5_readTunnel 133 = .ok (.iload_n 2, 1) := by decide +kernel
theorem dX5_readTunnel_134 : decode cX5_readTunnel 134 = .ok (.iload_n 3, 1) := by decide +kernel
theorem dX5_readTunnel_135 : decode cX5_readTunnel 135 = .ok (.ifCond .eq 21, 3) := by decide +kernel
theorem dX5_readTunnel_138 : decode cX5_readTunnel 138 = .ok (.aload_n 0, 1) := by decide +kernel
theorem dX5_readTunnel_139 : decode cX5_readTunnel 139 = .ok (.getfield 56, 3) := by decide +kernel
theorem dX5_readTunnel_142 : decode cX5_readTunnel 142 = .ok (.iconst 2, 1) := by decide +kernel
theorem dX5_readTunnel_143 : decode cX5_readTunnel 143 = .ok (.if_icmp .ne 13, 3) := by decide +kernel
theorem dX5_readTunnel_146 : decode cX5_readTunnel 146 = .ok (.aload_n 0, 1) := by decide +kernel
theorem dX5_readTunnel_147 : decode cX5_readTunnel 147 = .ok (.iconst 1, 1) := by decide +kernel
theorem dX5_readTunnel_148 : decode cX5_readTunnel 148 = .ok (.bipush 7, 2) := by decide +kernel
theorem dX5_readTunnel_150 : decode cX5_readTunnel 150 = .ok (.invokevirtual 48, 3) := by decide +kernel
theorem dX5_readTunnel_153 : decode cX5_readTunnel 153 = .ok (.goto 5, 3) := by decide +kernel
theorem dX5_readTunnel_156 : decode cX5_readTunnel 156 = .ok (.bipush 7, 2) := by decide +kernel
theorem dX5_readTunnel_158 : decode cX5_readTunnel 158 = .ok (.iastore, 1) := by decide +kernel
theorem dX5_readTunnel_159 : decode cX5_readTunnel 159 = .ok (.aload_n 0, 1) := by decide +kernel
theorem dX5_readTunnel_160 : decode cX5_readTunnel 160 = .ok (.invokevirtual 53, 3) := by decide +kernel
theorem dX5_readTunnel_163 : decode cX5_readTunnel 163 = .ok (.aload_n 1, 1) := by decide +kernel
theorem dX5_readTunnel_164 : decode cX5_readTunnel 164 = .ok (.iload_n 2, 1) := by decide +kernel
theorem dX5_readTunnel_165 : decode cX5_readTunnel 165 = .ok (.iconst 1, 1) := by decide +kernel
theorem dX5_readTunnel_166 : decode cX5_readTunnel 166 = .ok (.iadd, 1) := by decide +kernel
theorem dX5_readTunnel_167 : decode cX5_readTunnel 167 = .ok (.putfield 70, 3) := by decide +kernel
theorem dX5_readTunnel_170 : decode cX5_readTunnel 170 = .ok (.return_, 1) := by decide +kernel
theorem dX5_number_0 : decode cX5_number 0 = .ok (.aload_n 0, 1) := by decide +kernel
theorem dX5_number_1 : decode cX5_number 1 = .ok (.getfield 56, 3) := by decide +kernel
theorem dX5_number_4 : decode cX5_number 4 = .ok (.iconst 2, 1) := by decide +kernel
theorem dX5_number_5 : decode cX5_number 5 = .ok (.if_icmp .eq 11, 3) := by decide +kernel
theorem dX5_number_8 : decode cX5_number 8 = .ok (.aload_n 0, 1) := by decide +kernel
theorem dX5_number_9 : decode cX5_number 9 = .ok (.iconst 1, 1) := by decide +kernel
theorem dX5_number_10 : decode cX5_number 10 = .ok (.invokevirtual 76, 3) := by decide +kernel
theorem dX5_number_13 : decode cX5_number 13 = .ok (.goto 37, 3) := by decide +kernel
theorem dX5_number_16 : decode cX5_number 16 = .ok (.aload_n 0, 1) := by decide +kernel
theorem dX5_number_17 : decode cX5_number 17 = .ok (.getfield 31, 3) := by decide +kernel
theorem dX5_number_20 : decode cX5_number 20 = .ok (.aload_n 0, 1) := by decide +kernel
theorem dX5_number_21 : decode cX5_number 21 = .ok (.getfield 120, 3) := by decide +kernel
theorem dX5_number_24 : decode cX5_number 24 = .ok (.isub, 1) := by decide +kernel
theorem dX5_number_25 : decode cX5_number 25 = .ok (.iconst 4, 1) := by decide +kernel
theorem dX5_number_26 : decode cX5_number 26 = .ok (.if_icmp .gt 19, 3) := by decide +kernel
theorem dX5_number_29 : decode cX5_number 29 = .ok (.aload_n 0, 1) := by decide +kernel
theorem dX5_number_30 : decode cX5_number 30 = .ok (.getfield 123, 3) := by decide +kernel
theorem dX5_number_33 : decode cX5_number 33 = .ok (.iload_n 1, 1) := by decide +kernel
theorem dX5_number_34 : decode cX5_number 34 = .ok (.if_icmp .lt 11, 3) := by decide +kernel
theorem dX5_number_37 : decode cX5_number 37 = .ok (.aload_n 0, 1) := by decide +kernel
theorem dX5_number_38 : decode cX5_number 38 = .ok (.getfield 123, 3) := by decide +kernel
theorem dX5_number_41 : decode cX5_number 41 = .ok (.iload_n 2, 1) := by decide +kernel
theorem dX5_number_42 : decode cX5_number 42 = .ok (.if_icmp .le 8, 3) := by decide +kernel
theorem dX5_number_45 : decode cX5_number 45 = .ok (.aload_n 0, 1) := by decide +kernel
theorem dX5_number_46 : decode cX5_number 46 = .ok (.iconst 2, 1) := by decide +kernel
theorem dX5_number_47 : decode cX5_number 47 = .ok (.invokevirtual 76, 3) := by decide +kernel
theorem dX5_number_50 : decode cX5_number 50 = .ok (.aload_n 0, 1) := by decide +kernel
theorem dX5_number_51 : decode cX5_number 51 = .ok (.iload_n 1, 1) := by decide +kernel
theorem dX5_number_52 : decode cX5_number 52 = .ok (.invokevirtual 126, 3) := by decide +kernel
theorem dX5_number_55 : decode cX5_number 55 = .ok (.ireturn, 1) := by decide +kernel
theorem dX5_node_0 : decode cX5_node 0 = .ok (.aload_n 0, 1) := by decide +kernel
theorem dX5_node_1 : decode cX5_node 1 = .ok (.getfield 56, 3) := by decide +kernel
theorem dX5_node_4 : decode cX5_node 4 = .ok (.iconst 2, 1) := by decide +kernel
theorem dX5_node_5 : decode cX5_node 5 = .ok (.if_icmp .eq 11, 3) := by decide +kernel
theorem dX5_node_8 : decode cX5_node 8 = .ok (.aload_n 0, 1) := by decide +kernel
theorem dX5_node_9 : decode cX5_node 9 = .ok (.iconst 1, 1) := by decide +kernel
theorem dX5_node_10 : decode cX5_node 10 = .ok (.invokevirtual 76, 3) := by decide +kernel
theorem dX5_node_13 : decode cX5_node 13 = .ok (.goto 53, 3) := by decide +kernel
theorem dX5_node_16 : decode cX5_node 16 = .ok (.aload_n 0, 1) := by decide +kernel
theorem dX5_node_17 : decode cX5_node 17 = .ok (.getfield 31, 3) := by decide +kernel
theorem dX5_node_20 : decode cX5_node 20 = .ok (.aload_n 0, 1) := by decide +kernel
theorem dX5_node_21 : decode cX5_node 21 = .ok (.getfield 120, 3) := by decide +kernel
theorem dX5_node_24 : decode cX5_node 24 = .ok (.isub, 1) := by decide +kernel
theorem dX5_node_25 : decode cX5_node 25 = .ok (.iconst 4, 1) := by decide +kernel
theorem dX5_node_26 : decode cX5_node 26 = .ok (.if_icmp .le 11, 3) := by decide +kernel
theorem dX5_node_29 : decode cX5_node 29 = .ok (.aload_n 0, 1) := by decide +kernel
theorem dX5_node_30 : decode cX5_node 30 = .ok (.iconst 2, 1) := by decide +kernel
theorem dX5_node_31 : decode cX5_node 31 = .ok (.invokevirtual 76, 3) := by decide +kernel
theorem dX5_node_34 : decode cX5_node 34 = .ok (.goto 32, 3) := by decide +kernel
theorem dX5_node_37 : decode cX5_node 37 = .ok (.aload_n 0, 1) := by decide +kernel
theorem dX5_node_38 : decode cX5_node 38 = .ok (.getfield 123, 3) := by decide +kernel
theorem dX5_node_41 : decode cX5_node 41 = .ok (.iload_n 1, 1) := by decide +kernel
theorem dX5_node_42 : decode cX5_node 42 = .ok (.if_icmp .lt 11, 3) := by decide +kernel
theorem dX5_node_45 : decode cX5_node 45 = .ok (.aload_n 0, 1) := by decide +kernel
theorem dX5_node_46 : decode cX5_node 46 = .ok (.iconst 3, 1) := by decide +kernel
theorem dX5_node_47 : decode cX5_node 47 = .ok (.invokevirtual 76, 3) := by decide +kernel
theorem dX5_node_50 : decode cX5_node 50 = .ok (.goto 16, 3) := by decide +kernel
theorem dX5_node_53 : decode cX5_node 53 = .ok (.aload_n 0, 1) := by decide +kernel
theorem dX5_node_54 : decode cX5_node 54 = .ok (.getfield 123, 3) := by decide +kernel
theorem dX5_node_57 : decode cX5_node 57 = .ok (.iload_n 2, 1) := by decide +kernel
theorem dX5_node_58 : decode cX5_node 58 = .ok (.if_icmp .ne 8, 3) := by decide +kernel
theorem dX5_node_61 : decode cX5_node 61 = .ok (.aload_n 0, 1) := by decide +kernel
theorem dX5_node_62 : decode cX5_node 62 = .ok (.iconst 4, 1) := by decide +kernel
theorem dX5_node_63 : decode cX5_node 63 = .ok (.invokevirtual 76, 3) := by decide +kernel
theorem dX5_node_66 : decode cX5_node 66 = .ok (.aload_n 0, 1) := by decide +kernel
theorem dX5_node_67 : decode cX5_node 67 = .ok (.iconst 0, 1) := by decide +kernel
theorem dX5_node_68 : decode cX5_node 68 = .ok (.invokevirtual 126, 3) := by decide +kernel
theorem dX5_node_71 : decode cX5_node 71 = .ok (.ireturn, 1) := by decide +kernel
theorem dX5_accept_0 : decode cX5_accept 0 = .ok (.aload_n 0, 1) := by decide +kernel
theorem dX5_accept_1 : decode cX5_accept 1 = .ok (.getfield 28, 3) := by decide +kernel
theorem dX5_accept_4 : decode cX5_accept 4 = .ok (.ifCond .eq 5, 3) := by decide +kernel
theorem dX5_accept_7 : decode cX5_accept 7 = .ok (.iload_n 1, 1) := by decide +kernel
theorem dX5_accept_8 : decode cX5_accept 8 = .ok (.ireturn, 1) := by decide +kernel
theorem dX5_accept_9 : decode cX5_accept 9 = .ok (.aload_n 0, 1) := by decide +kernel
theorem dX5_accept_10 : decode cX5_accept 10 = .ok (.getfield 123, 3) := by decide +kernel
theorem dX5_accept_13 : decode cX5_accept 13 = .ok (.istore_n 2, 1) := by decide +kernel
theorem dX5_accept_14 : decode cX5_accept 14 = .ok (.aload_n 0, 1) := by decide +kernel
theorem dX5_accept_15 : decode cX5_accept 15 = .ok (.invokevirtual 39, 3) := by decide +kernel
theorem dX5_accept_18 : decode cX5_accept 18 = .ok (.iload_n 2, 1) := by decide +kernel
theorem dX5_accept_19 : decode cX5_accept 19 = .ok (.ireturn, 1) := by decide +kernel
theorem dX5_semicolon_0 : decode cX5_semicolon 0 = .ok (.aload_n 0, 1) := by decide +kernel
theorem dX5_semicolon_1 : decode cX5_semicolon 1 = .ok (.getfield 56, 3) := by decide +kernel
theorem dX5_semicolon_4 : decode cX5_semicolon 4 = .ok (.iconst 3, 1) := by decide +kernel
theorem dX5_semicolon_5 : decode cX5_semicolon 5 = .ok (.if_icmp .eq 8, 3) := by decide +kernel
theorem dX5_semicolon_8 : decode cX5_semicolon 8 = .ok (.aload_n 0, 1) := by decide +kernel
theorem dX5_semicolon_9 : decode cX5_semicolon 9 = .ok (.iconst 1, 1) := by decide +kernel
theorem dX5_semicolon_10 : decode cX5_semicolon 10 = .ok (.invokevirtual 76, 3) := by decide +kernel
theorem dX5_semicolon_13 : decode cX5_semicolon 13 = .ok (.aload_n 0, 1) := by decide +kernel
theorem dX5_semicolon_14 : decode cX5_semicolon 14 = .ok (.getfield 28, 3) := by decide +kernel
theorem dX5_semicolon_17 : decode cX5_semicolon 17 = .ok (.ifCond .ne 7, 3) := by decide +kernel
theorem dX5_semicolon_20 : decode cX5_semicolon 20 = .ok (.aload_n 0, 1) := by decide +kernel
theorem dX5_semicolon_21 : decode cX5_semicolon 21 = .ok (.invokevirtual 39, 3) := by decide +kernel
theorem dX5_semicolon_24 : decode cX5_semicolon 24 = .ok (.return_, 1) := by decide +kernel
theorem dX5_flag_0 : decode cX5_flag 0 = .ok (.aload_n 0, 1) := by decide +kernel
theorem dX5_flag_1 : decode cX5_flag 1 = .ok (.getfield 28, 3) := by decide +kernel
theorem dX5_flag_4 : decode cX5_flag 4 = .ok (.ifCond .ne 16, 3) := by decide +kernel
theorem dX5_flag_7 : decode cX5_flag 7 = .ok (.aload_n 0, 1) := by decide +kernel
theorem dX5_flag_8 : decode cX5_flag 8 = .ok (.iload_n 1, 1) := by decide +kernel
theorem dX5_flag_9 : decode cX5_flag 9 = .ok (.putfield 28, 3) := by decide +kernel
theorem dX5_flag_12 : decode cX5_flag 12 = .ok (.aload_n 0, 1) := by decide +kernel
theorem dX5_flag_13 : decode cX5_flag 13 = .ok (.aload_n 0, 1) := by decide +kernel
theorem dX5_flag_14 : decode cX5_flag 14 = .ok (.getfield 120, 3) := by decide +kernel
theorem dX5_flag_17 : decode cX5_flag 17 = .ok (.putfield 15, 3) := by decide +kernel
theorem dX5_flag_20 : decode cX5_flag 20 = .ok (.return_, 1) := by decide +kernel
theorem dX5_next_0 : decode cX5_next 0 = .ok (.aload_n 0, 1) := by decide +kernel
theorem dX5_next_1 : decode cX5_next 1 = .ok (.aload_n 0, 1) := by decide +kernel
theorem dX5_next_2 : decode cX5_next 2 = .ok (.getfield 31, 3) := by decide +kernel
theorem dX5_next_5 : decode cX5_next 5 = .ok (.putfield 120, 3) := by decide +kernel
theorem dX5_next_8 : decode cX5_next 8 = .ok (.aload_n 0, 1) := by decide +kernel
theorem dX5_next_9 : decode cX5_next 9 = .ok (.getfield 120, 3) := by decide +kernel
theorem dX5_next_12 : decode cX5_next 12 = .ok (.aload_n 0, 1) := by decide +kernel
theorem dX5_next_13 : decode cX5_next 13 = .ok (.getfield 25, 3) := by decide +kernel
theorem dX5_next_16 : decode cX5_next 16 = .ok (.if_icmp .ge 31, 3) := by decide +kernel
theorem dX5_next_19 : decode cX5_next 19 = .ok (.aload_n 0, 1) := by decide +kernel
theorem dX5_next_20 : decode cX5_next 20 = .ok (.getfield 9, 3) := by decide +kernel
theorem dX5_next_23 : decode cX5_next 23 = .ok (.aload_n 0, 1) := by decide +kernel
theorem dX5_next_24 : decode cX5_next 24 = .ok (.getfield 120, 3) := by decide +kernel
theorem dX5_next_27 : decode cX5_next 27 = .ok (.baload, 1) := by decide +kernel
theorem dX5_next_28 : decode cX5_next 28 = .ok (.invokestatic 130, 3) := by decide +kernel
theorem dX5_next_31 : decode cX5_next 31 = .ok (.ifCond .eq 16, 3) := by decide +kernel
theorem dX5_next_34 : decode cX5_next 34 = .ok (.aload_n 0, 1) := by decide +kernel
theorem dX5_next_35 : decode cX5_next 35 = .ok (.dup, 1) := by decide +kernel
theorem dX5_next_36 : decode cX5_next 36 = .ok (.getfield 120, 3) := by decide +kernel
theorem dX5_next_39 : decode cX5_next 39 = .ok (.iconst 1, 1) := by decide +kernel
theorem dX5_next_40 : decode cX5_next 40 = .ok (.iadd, 1) := by decide +kernel
theorem dX5_next_41 : decode cX5_next 41 = .ok (.putfield 120, 3) := by decide +kernel
theorem dX5_next_44 : decode cX5_next 44 = .ok (.goto (-36), 3) := by decide +kernel
theorem dX5_next_47 : decode cX5_next 47 = .ok (.aload_n 0, 1) := by decide +kernel
theorem dX5_next_48 : decode cX5_next 48 = .ok (.aload_n 0, 1) := by decide +kernel
theorem dX5_next_49 : decode cX5_next 49 = .ok (.getfield 120, 3) := by decide +kernel
theorem dX5_next_52 : decode cX5_next 52 = .ok (.putfield 31, 3) := by decide +kernel
theorem dX5_next_55 : decode cX5_next 55 = .ok (.aload_n 0, 1) := by decide +kernel
theorem dX5_next_56 : decode cX5_next 56 = .ok (.getfield 120, 3) := by decide +kernel
theorem dX5_next_59 : decode cX5_next 59 = .ok (.aload_n 0, 1) := by decide +kernel
theorem dX5_next_60 : decode cX5_next 60 = .ok (.getfield 25, 3) := by decide +kernel
theorem dX5_next_63 : decode cX5_next 63 = .ok (.if_icmp .lt 9, 3) := by decide +kernel
theorem dX5_next_66 : decode cX5_next 66 = .ok (.aload_n 0, 1) := by decide +kernel
theorem dX5_next_67 : decode cX5_next 67 = .ok (.iconst 0, 1) := by decide +kernel
theorem dX5_next_68 : decode cX5_next 68 = .ok (.putfield 56, 3) := by decide +kernel
theorem dX5_next_71 : decode cX5_next 71 = .ok (.return_, 1) := by decide +kernel
theorem dX5_next_72 : decode cX5_next 72 = .ok (.aload_n 0, 1) := by decide +kernel
theorem dX5_next_73 : decode cX5_next 73 = .ok (.getfield 9, 3) := by decide +kernel
theorem dX5_next_76 : decode cX5_next 76 = .ok (.aload_n 0, 1) := by decide +kernel
theorem dX5_next_77 : decode cX5_next 77 = .ok (.getfield 120, 3) := by decide +kernel
theorem dX5_next_80 : decode cX5_next 80 = .ok (.baload, 1) := by decide +kernel
theorem dX5_next_81 : decode cX5_next 81 = .ok (.istore_n 1, 1) := by decide +kernel
theorem dX5_next_82 : decode cX5_next 82 = .ok (.iload_n 1, 1) := by decide +kernel
theorem dX5_next_83 : decode cX5_next 83 = .ok (.bipush 97, 2) := by decide +kernel
theorem dX5_next_85 : decode cX5_next 85 = .ok (.if_icmp .lt 25, 3) := by decide +kernel
theorem dX5_next_88 : decode cX5_next 88 = .ok (.iload_n 1, 1) := by decide +kernel
theorem dX5_next_89 : decode cX5_next 89 = .ok (.bipush 122, 2) := by decide +kernel
theorem dX5_next_91 : decode cX5_next 91 = .ok (.if_icmp .gt 19, 3) := by decide +kernel
theorem dX5_next_94 : decode cX5_next 94 = .ok (.aload_n 0, 1) := by decide +kernel
theorem dX5_next_95 : decode cX5_next 95 = .ok (.iconst 1, 1) := by decide +kernel
theorem dX5_next_96 : decode cX5_next 96 = .ok (.putfield 56, 3) := by decide +kernel
theorem dX5_next_99 : decode cX5_next 99 = .ok (.aload_n 0, 1) := by decide +kernel
theorem dX5_next_100 : decode cX5_next 100 = .ok (.bipush 97, 2) := by decide +kernel
theorem dX5_next_102 : decode cX5_next 102 = .ok (.bipush 122, 2) := by decide +kernel
theorem dX5_next_104 : decode cX5_next 104 = .ok (.invokevirtual 134, 3) := by decide +kernel
theorem dX5_next_107 : decode cX5_next 107 = .ok (.goto 64, 3) := by decide +kernel
theorem dX5_next_110 : decode cX5_next 110 = .ok (.iload_n 1, 1) := by decide +kernel
theorem dX5_next_111 : decode cX5_next 111 = .ok (.bipush 48, 2) := by decide +kernel
theorem dX5_next_113 : decode cX5_next 113 = .ok (.if_icmp .lt 33, 3) := by decide +kernel
theorem dX5_next_116 : decode cX5_next 116 = .ok (.iload_n 1, 1) := by decide +kernel
theorem dX5_next_117 : decode cX5_next 117 = .ok (.bipush 57, 2) := by decide +kernel
theorem dX5_next_119 : decode cX5_next 119 = .ok (.if_icmp .gt 27, 3) := by decide +kernel
theorem dX5_next_122 : decode cX5_next 122 = .ok (.aload_n 0, 1) := by decide +kernel
theorem dX5_next_123 : decode cX5_next 123 = .ok (.iconst 2, 1) := by decide +kernel
theorem dX5_next_124 : decode cX5_next 124 = .ok (.putfield 56, 3) := by decide +kernel
theorem dX5_next_127 : decode cX5_next 127 = .ok (.aload_n 0, 1) := by decide +kernel
theorem dX5_next_128 : decode cX5_next 128 = .ok (.bipush 48, 2) := by decide +kernel
theorem dX5_next_130 : decode cX5_next 130 = .ok (.bipush 57, 2) := by decide +kernel
theorem dX5_next_132 : decode cX5_next 132 = .ok (.invokevirtual 134, 3) := by decide +kernel
theorem dX5_next_135 : decode cX5_next 135 = .ok (.aload_n 0, 1) := by decide +kernel
theorem dX5_next_136 : decode cX5_next 136 = .ok (.aload_n 0, 1) := by decide +kernel
theorem dX5_next_137 : decode cX5_next 137 = .ok (.invokevirtual 138, 3) := by decide +kernel
theorem dX5_next_140 : decode cX5_next 140 = .ok (.putfield 123, 3) := by decide +kernel
theorem dX5_next_143 : decode cX5_next 143 = .ok (.goto 28, 3) := by decide +kernel
theorem dX5_next_146 : decode cX5_next 146 = .ok (.aload_n 0, 1) := by decide +kernel
theorem dX5_next_147 : decode cX5_next 147 = .ok (.iload_n 1, 1) := by decide +kernel
theorem dX5_next_148 : decode cX5_next 148 = .ok (.bipush 59, 2) := by decide +kernel
theorem dX5_next_150 : decode cX5_next 150 = .ok (.if_icmp .ne 7, 3) := by decide +kernel
theorem dX5_next_153 : decode cX5_next 153 = .ok (.iconst 3, 1) := by decide +kernel
theorem dX5_next_154 : decode cX5_next 154 = .ok (.goto 4, 3) := by decide +kernel
theorem dX5_next_157 : decode cX5_next 157 = .ok (.iconst 4, 1) := by decide +kernel
theorem dX5_next_158 : decode cX5_next 158 = .ok (.putfield 56, 3) := by decide +kernel
theorem dX5_next_161 : decode cX5_next 161 = .ok (.aload_n 0, 1) := by decide +kernel
theorem dX5_next_162 : decode cX5_next 162 = .ok (.aload_n 0, 1) := by decide +kernel
theorem dX5_next_163 : decode cX5_next 163 = .ok (.getfield 120, 3) := by decide +kernel
theorem dX5_next_166 : decode cX5_next 166 = .ok (.iconst 1, 1) := by decide +kernel
theorem dX5_next_167 : decode cX5_next 167 = .ok (.iadd, 1) := by decide +kernel
theorem dX5_next_168 : decode cX5_next 168 = .ok (.putfield 31, 3) := by decide +kernel
theorem dX5_next_171 : decode cX5_next 171 = .ok (.return_, 1) := by decide +kernel
theorem dX5_isBlank_0 : decode cX5_isBlank 0 = .ok (.iload_n 0, 1) := by decide +kernel
theorem dX5_isBlank_1 : decode cX5_isBlank 1 = .ok (.bipush 32, 2) := by decide +kernel
theorem dX5_isBlank_3 : decode cX5_isBlank 3 = .ok (.if_icmp .eq 9, 3) := by decide +kernel
theorem dX5_isBlank_6 : decode cX5_isBlank 6 = .ok (.iload_n 0, 1) := by decide +kernel
theorem dX5_isBlank_7 : decode cX5_isBlank 7 = .ok (.bipush 10, 2) := by decide +kernel
theorem dX5_isBlank_9 : decode cX5_isBlank 9 = .ok (.if_icmp .ne 7, 3) := by decide +kernel
theorem dX5_isBlank_12 : decode cX5_isBlank 12 = .ok (.iconst 1, 1) := by decide +kernel
theorem dX5_isBlank_13 : decode cX5_isBlank 13 = .ok (.goto 4, 3) := by decide +kernel
theorem dX5_isBlank_16 : decode cX5_isBlank 16 = .ok (.iconst 0, 1) := by decide +kernel
theorem dX5_isBlank_17 : decode cX5_isBlank 17 = .ok (.ireturn, 1) := by decide +kernel
theorem dX5_endOfRow_0 : decode cX5_endOfRow 0 = .ok (.aload_n 0, 1) := by decide +kernel
theorem dX5_endOfRow_1 : decode cX5_endOfRow 1 = .ok (.getfield 31, 3) := by decide +kernel
theorem dX5_endOfRow_4 : decode cX5_endOfRow 4 = .ok (.aload_n 0, 1) := by decide +kernel
theorem dX5_endOfRow_5 : decode cX5_endOfRow 5 = .ok (.getfield 25, 3) := by decide +kernel
theorem dX5_endOfRow_8 : decode cX5_endOfRow 8 = .ok (.if_icmp .ge 42, 3) := by decide +kernel
theorem dX5_endOfRow_11 : decode cX5_endOfRow 11 = .ok (.aload_n 0, 1) := by decide +kernel
theorem dX5_endOfRow_12 : decode cX5_endOfRow 12 = .ok (.getfield 9, 3) := by decide +kernel
theorem dX5_endOfRow_15 : decode cX5_endOfRow 15 = .ok (.aload_n 0, 1) := by decide +kernel
theorem dX5_endOfRow_16 : decode cX5_endOfRow 16 = .ok (.getfield 31, 3) := by decide +kernel
theorem dX5_endOfRow_19 : decode cX5_endOfRow 19 = .ok (.baload, 1) := by decide +kernel
theorem dX5_endOfRow_20 : decode cX5_endOfRow 20 = .ok (.iload_n 1, 1) := by decide +kernel
theorem dX5_endOfRow_21 : decode cX5_endOfRow 21 = .ok (.if_icmp .lt 29, 3) := by decide +kernel
theorem dX5_endOfRow_24 : decode cX5_endOfRow 24 = .ok (.aload_n 0, 1) := by decide +kernel
theorem dX5_endOfRow_25 : decode cX5_endOfRow 25 = .ok (.getfield 9, 3) := by decide +kernel
theorem dX5_endOfRow_28 : decode cX5_endOfRow 28 = .ok (.aload_n 0, 1) := by decide +kernel
theorem dX5_endOfRow_29 : decode cX5_endOfRow 29 = .ok (.getfield 31, 3) := by decide +kernel
theorem dX5_endOfRow_32 : decode cX5_endOfRow 32 = .ok (.baload, 1) := by decide +kernel
theorem dX5_endOfRow_33 : decode cX5_endOfRow 33 = .ok (.iload_n 2, 1) := by decide +kernel
theorem dX5_endOfRow_34 : decode cX5_endOfRow 34 = .ok (.if_icmp .gt 16, 3) := by decide +kernel
theorem dX5_endOfRow_37 : decode cX5_endOfRow 37 = .ok (.aload_n 0, 1) := by decide +kernel
theorem dX5_endOfRow_38 : decode cX5_endOfRow 38 = .ok (.dup, 1) := by decide +kernel
theorem dX5_endOfRow_39 : decode cX5_endOfRow 39 = .ok (.getfield 31, 3) := by decide +kernel
theorem dX5_endOfRow_42 : decode cX5_endOfRow 42 = .ok (.iconst 1, 1) := by decide +kernel
theorem dX5_endOfRow_43 : decode cX5_endOfRow 43 = .ok (.iadd, 1) := by decide +kernel
theorem dX5_endOfRow_44 : decode cX5_endOfRow 44 = .ok (.putfield 31, 3) := by decide +kernel
theorem dX5_endOfRow_47 : decode cX5_endOfRow 47 = .ok (.goto (-47), 3) := by decide +kernel
theorem dX5_endOfRow_50 : decode cX5_endOfRow 50 = .ok (.return_, 1) := by decide +kernel
theorem dX5_valueOfRow_0 : decode cX5_valueOfRow 0 = .ok (.iconst 0, 1) := by decide +kernel
theorem dX5_valueOfRow_1 : decode cX5_valueOfRow 1 = .ok (.istore_n 1, 1) := by decide +kernel
theorem dX5_valueOfRow_2 : decode cX5_valueOfRow 2 = .ok (.aload_n 0, 1) := by decide +kernel
theorem dX5_valueOfRow_3 : decode cX5_valueOfRow 3 = .ok (.getfield 120, 3) := by decide +kernel
theorem dX5_valueOfRow_6 : decode cX5_valueOfRow 6 = .ok (.istore_n 2, 1) := by decide +kernel
theorem dX5_valueOfRow_7 : decode cX5_valueOfRow 7 = .ok (.iload_n 2, 1) := by decide +kernel
theorem dX5_valueOfRow_8 : decode cX5_valueOfRow 8 = .ok (.aload_n 0, 1) := by decide +kernel
theorem dX5_valueOfRow_9 : decode cX5_valueOfRow 9 = .ok (.getfield 31, 3) := by decide +kernel
theorem dX5_valueOfRow_12 : decode cX5_valueOfRow 12 = .ok (.if_icmp .ge 29, 3) := by decide +kernel
theorem dX5_valueOfRow_15 : decode cX5_valueOfRow 15 = .ok (.ldc 142, 2) := by decide +kernel
theorem dX5_valueOfRow_17 : decode cX5_valueOfRow 17 = .ok (.iload_n 1, 1) := by decide +kernel
theorem dX5_valueOfRow_18 : decode cX5_valueOfRow 18 = .ok (.bipush 10, 2) := by decide +kernel
theorem dX5_valueOfRow_20 : decode cX5_valueOfRow 20 = .ok (.imul, 1) := by decide +kernel
theorem dX5_valueOfRow_21 : decode cX5_valueOfRow 21 = .ok (.aload_n 0, 1) := by decide +kernel
theorem dX5_valueOfRow_22 : decode cX5_valueOfRow 22 = .ok (.getfield 9, 3) := by decide +kernel
theorem dX5_valueOfRow_25 : decode cX5_valueOfRow 25 = .ok (.iload_n 2, 1) := by decide +kernel
theorem dX5_valueOfRow_26 : decode cX5_valueOfRow 26 = .ok (.baload, 1) := by decide +kernel
theorem dX5_valueOfRow_27 : decode cX5_valueOfRow 27 = .ok (.iadd, 1) := by decide +kernel
theorem dX5_valueOfRow_28 : decode cX5_valueOfRow 28 = .ok (.bipush 48, 2) := by decide +kernel
theorem dX5_valueOfRow_30 : decode cX5_valueOfRow 30 = .ok (.isub, 1) := by decide +kernel
theorem dX5_valueOfRow_31 : decode cX5_valueOfRow 31 = .ok (.invokestatic 19, 3) := by decide +kernel
theorem dX5_valueOfRow_34 : decode cX5_valueOfRow 34 = .ok (.istore_n 1, 1) := by decide +kernel
theorem dX5_valueOfRow_35 : decode cX5_valueOfRow 35 = .ok (.iinc 2 1, 3) := by decide +kernel
theorem dX5_valueOfRow_38 : decode cX5_valueOfRow 38 = .ok (.goto (-31), 3) := by decide +kernel
theorem dX5_valueOfRow_41 : decode cX5_valueOfRow 41 = .ok (.iload_n 1, 1) := by decide +kernel
theorem dX5_valueOfRow_42 : decode cX5_valueOfRow 42 = .ok (.ireturn, 1) := by decide +kernel
theorem dX5_isWord_0 : decode cX5_isWord 0 = .ok (.aload_n 0, 1) := by decide +kernel
theorem dX5_isWord_1 : decode cX5_isWord 1 = .ok (.getfield 56, 3) := by decide +kernel
theorem dX5_isWord_4 : decode cX5_isWord 4 = .ok (.iconst 1, 1) := by decide +kernel
theorem dX5_isWord_5 : decode cX5_isWord 5 = .ok (.if_icmp .ne 19, 3) := by decide +kernel
theorem dX5_isWord_8 : decode cX5_isWord 8 = .ok (.aload_n 0, 1) := by decide +kernel
theorem dX5_isWord_9 : decode cX5_isWord 9 = .ok (.getfield 31, 3) := by decide +kernel
theorem dX5_isWord_12 : decode cX5_isWord 12 = .ok (.aload_n 0, 1) := by decide +kernel
theorem dX5_isWord_13 : decode cX5_isWord 13 = .ok (.getfield 120, 3) := by decide +kernel
theorem dX5_isWord_16 : decode cX5_isWord 16 = .ok (.isub, 1) := by decide +kernel
theorem dX5_isWord_17 : decode cX5_isWord 17 = .ok (.aload_n 1, 1) := by decide +kernel
theorem dX5_isWord_18 : decode cX5_isWord 18 = .ok (.invokevirtual 143, 3) := by decide +kernel
theorem dX5_isWord_21 : decode cX5_isWord 21 = .ok (.if_icmp .eq 5, 3) := by decide +kernel
theorem dX5_isWord_24 : decode cX5_isWord 24 = .ok (.iconst 0, 1) := by decide +kernel
theorem dX5_isWord_25 : decode cX5_isWord 25 = .ok (.ireturn, 1) := by decide +kernel
theorem dX5_isWord_26 : decode cX5_isWord 26 = .ok (.iconst 0, 1) := by decide +kernel
theorem dX5_isWord_27 : decode cX5_isWord 27 = .ok (.istore_n 2, 1) := by decide +kernel
theorem dX5_isWord_28 : decode cX5_isWord 28 = .ok (.iload_n 2, 1) := by decide +kernel
theorem dX5_isWord_29 : decode cX5_isWord 29 = .ok (.aload_n 1, 1) := by decide +kernel
theorem dX5_isWord_30 : decode cX5_isWord 30 = .ok (.invokevirtual 143, 3) := by decide +kernel
theorem dX5_isWord_33 : decode cX5_isWord 33 = .ok (.if_icmp .ge 30, 3) := by decide +kernel
theorem dX5_isWord_36 : decode cX5_isWord 36 = .ok (.aload_n 0, 1) := by decide +kernel
theorem dX5_isWord_37 : decode cX5_isWord 37 = .ok (.getfield 9, 3) := by decide +kernel
theorem dX5_isWord_40 : decode cX5_isWord 40 = .ok (.aload_n 0, 1) := by decide +kernel
theorem dX5_isWord_41 : decode cX5_isWord 41 = .ok (.getfield 120, 3) := by decide +kernel
theorem dX5_isWord_44 : decode cX5_isWord 44 = .ok (.iload_n 2, 1) := by decide +kernel
theorem dX5_isWord_45 : decode cX5_isWord 45 = .ok (.iadd, 1) := by decide +kernel
theorem dX5_isWord_46 : decode cX5_isWord 46 = .ok (.baload, 1) := by decide +kernel
theorem dX5_isWord_47 : decode cX5_isWord 47 = .ok (.aload_n 1, 1) := by decide +kernel
theorem dX5_isWord_48 : decode cX5_isWord 48 = .ok (.iload_n 2, 1) := by decide +kernel
theorem dX5_isWord_49 : decode cX5_isWord 49 = .ok (.invokevirtual 147, 3) := by decide +kernel
theorem dX5_isWord_52 : decode cX5_isWord 52 = .ok (.if_icmp .eq 5, 3) := by decide +kernel
theorem dX5_isWord_55 : decode cX5_isWord 55 = .ok (.iconst 0, 1) := by decide +kernel
theorem dX5_isWord_56 : decode cX5_isWord 56 = .ok (.ireturn, 1) := by decide +kernel
theorem dX5_isWord_57 : decode cX5_isWord 57 = .ok (.iinc 2 1, 3) := by decide +kernel
theorem dX5_isWord_60 : decode cX5_isWord 60 = .ok (.goto (-32), 3) := by decide +kernel
theorem dX5_isWord_63 : decode cX5_isWord 63 = .ok (.iconst 1, 1) := by decide +kernel
theorem dX5_isWord_64 : decode cX5_isWord 64 = .ok (.ireturn, 1) := by decide +kernel
theorem dX6_init_0 : decode cX6_init 0 = .ok (.aload_n 0, 1) := by decide +kernel
theorem dX6_init_1 : decode cX6_init 1 = .ok (.invokespecial 3, 3) := by decide +kernel
theorem dX6_init_4 : decode cX6_init 4 = .ok (.aload_n 0, 1) := by decide +kernel
theorem dX6_init_5 : decode cX6_init 5 = .ok (.bipush 16, 2) := by decide +kernel
theorem dX6_init_7 : decode cX6_init 7 = .ok (.newarray .int, 2) := by decide +kernel
theorem dX6_init_9 : decode cX6_init 9 = .ok (.putfield 9, 3) := by decide +kernel
theorem dX6_init_12 : decode cX6_init 12 = .ok (.aload_n 0, 1) := by decide +kernel
theorem dX6_init_13 : decode cX6_init 13 = .ok (.bipush 64, 2) := by decide +kernel
theorem dX6_init_15 : decode cX6_init 15 = .ok (.newarray .int, 2) := by decide +kernel
theorem dX6_init_17 : decode cX6_init 17 = .ok (.putfield 15, 3) := by decide +kernel
theorem dX6_init_20 : decode cX6_init 20 = .ok (.aload_n 0, 1) := by decide +kernel
theorem dX6_init_21 : decode cX6_init 21 = .ok (.bipush 64, 2) := by decide +kernel
theorem dX6_init_23 : decode cX6_init 23 = .ok (.newarray .int, 2) := by decide +kernel
theorem dX6_init_25 : decode cX6_init 25 = .ok (.putfield 18, 3) := by decide +kernel
theorem dX6_init_28 : decode cX6_init 28 = .ok (.aload_n 0, 1) := by decide +kernel
theorem dX6_init_29 : decode cX6_init 29 = .ok (.bipush 16, 2) := by decide +kernel
theorem dX6_init_31 : decode cX6_init 31 = .ok (.newarray .int, 2) := by decide +kernel
theorem dX6_init_33 : decode cX6_init 33 = .ok (.putfield 21, 3) := by decide +kernel
theorem dX6_init_36 : decode cX6_init 36 = .ok (.aload_n 0, 1) := by decide +kernel
theorem dX6_init_37 : decode cX6_init 37 = .ok (.bipush 8, 2) := by decide +kernel
theorem dX6_init_39 : decode cX6_init 39 = .ok (.newarray .int, 2) := by decide +kernel
theorem dX6_init_41 : decode cX6_init 41 = .ok (.putfield 24, 3) := by decide +kernel
theorem dX6_init_44 : decode cX6_init 44 = .ok (.aload_n 0, 1) := by decide +kernel
theorem dX6_init_45 : decode cX6_init 45 = .ok (.aload_n 1, 1) := by decide +kernel
theorem dX6_init_46 : decode cX6_init 46 = .ok (.putfield 27, 3) := by decide +kernel
theorem dX6_init_49 : decode cX6_init 49 = .ok (.return_, 1) := by decide +kernel
theorem dX6_reaches_0 : decode cX6_reaches 0 = .ok (.iconst 1, 1) := by decide +kernel
theorem dX6_reaches_1 : decode cX6_reaches 1 = .ok (.iload_n 2, 1) := by decide +kernel
theorem dX6_reaches_2 : decode cX6_reaches 2 = .ok (.ishl, 1) := by decide +kernel
theorem dX6_reaches_3 : decode cX6_reaches 3 = .ok (.istore 5, 2) := by decide +kernel
theorem dX6_reaches_5 : decode cX6_reaches 5 = .ok (.iconst 0, 1) := by decide +kernel
theorem dX6_reaches_6 : decode cX6_reaches 6 = .ok (.istore 6, 2) := by decide +kernel
theorem dX6_reaches_8 : decode cX6_reaches 8 = .ok (.iload 6, 2) := by decide +kernel
theorem dX6_reaches_10 : decode cX6_reaches 10 = .ok (.iload 4, 2) := by decide +kernel
theorem dX6_reaches_12 : decode cX6_reaches 12 = .ok (.if_icmp .ge 93, 3) := by decide +kernel
theorem dX6_reaches_15 : decode cX6_reaches 15 = .ok (.iload 5, 2) := by decide +kernel
theorem dX6_reaches_17 : decode cX6_reaches 17 = .ok (.iload_n 3, 1) := by decide +kernel
theorem dX6_reaches_18 : decode cX6_reaches 18 = .ok (.iushr, 1) := by decide +kernel
theorem dX6_reaches_19 : decode cX6_reaches 19 = .ok (.iconst 1, 1) := by decide +kernel
theorem dX6_reaches_20 : decode cX6_reaches 20 = .ok (.iand, 1) := by decide +kernel
theorem dX6_reaches_21 : decode cX6_reaches 21 = .ok (.ifCond .ne 84, 3) := by decide +kernel
theorem dX6_reaches_24 : decode cX6_reaches 24 = .ok (.iload 5, 2) := by decide +kernel
theorem dX6_reaches_26 : decode cX6_reaches 26 = .ok (.istore 7, 2) := by decide +kernel
theorem dX6_reaches_28 : decode cX6_reaches 28 = .ok (.iconst 0, 1) := by decide +kernel
theorem dX6_reaches_29 : decode cX6_reaches 29 = .ok (.istore 8, 2) := by decide +kernel
theorem dX6_reaches_31 : decode cX6_reaches 31 = .ok (.iload 8, 2) := by decide +kernel
theorem dX6_reaches_33 : decode cX6_reaches 33 = .ok (.aload_n 0, 1) := by decide +kernel
theorem dX6_reaches_34 : decode cX6_reaches 34 = .ok (.getfield 27, 3) := by decide +kernel
theorem dX6_reaches_37 : decode cX6_reaches 37 = .ok (.getfield 31, 3) := by decide +kernel
theorem dX6_reaches_40 : decode cX6_reaches 40 = .ok (.if_icmp .ge 49, 3) := by decide +kernel
theorem dX6_reaches_43 : decode cX6_reaches 43 = .ok (.iload_n 1, 1) := by decide +kernel
theorem dX6_reaches_44 : decode cX6_reaches 44 = .ok (.iload 8, 2) := by decide +kernel
theorem dX6_reaches_46 : decode cX6_reaches 46 = .ok (.iushr, 1) := by decide +kernel
theorem dX6_reaches_47 : decode cX6_reaches 47 = .ok (.iload 7, 2) := by decide +kernel
theorem dX6_reaches_49 : decode cX6_reaches 49 = .ok (.aload_n 0, 1) := by decide +kernel
theorem dX6_reaches_50 : decode cX6_reaches 50 = .ok (.getfield 27, 3) := by decide +kernel
theorem dX6_reaches_53 : decode cX6_reaches 53 = .ok (.getfield 37, 3) := by decide +kernel
theorem dX6_reaches_56 : decode cX6_reaches 56 = .ok (.iload 8, 2) := by decide +kernel
theorem dX6_reaches_58 : decode cX6_reaches 58 = .ok (.iaload, 1) := by decide +kernel
theorem dX6_reaches_59 : decode cX6_reaches 59 = .ok (.iushr, 1) := by decide +kernel
theorem dX6_reaches_60 : decode cX6_reaches 60 = .ok (.iand, 1) := by decide +kernel
theorem dX6_reaches_61 : decode cX6_reaches 61 = .ok (.iconst 1, 1) := by decide +kernel
theorem dX6_reaches_62 : decode cX6_reaches 62 = .ok (.iand, 1) := by decide +kernel
theorem dX6_reaches_63 : decode cX6_reaches 63 = .ok (.ifCond .eq 20, 3) := by decide +kernel
theorem dX6_reaches_66 : decode cX6_reaches 66 = .ok (.iload 5, 2) := by decide +kernel
theorem dX6_reaches_68 : decode cX6_reaches 68 = .ok (.iconst 1, 1) := by decide +kernel
theorem dX6_reaches_69 : decode cX6_reaches 69 = .ok (.aload_n 0, 1) := by decide +kernel
theorem dX6_reaches_70 : decode cX6_reaches 70 = .ok (.getfield 27, 3) := by decide +kernel
theorem dX6_reaches_73 : decode cX6_reaches 73 = .ok (.getfield 40, 3) := by decide +kernel
theorem dX6_reaches_76 : decode cX6_reaches 76 = .ok (.iload 8, 2) := by decide +kernel
theorem dX6_reaches_78 : decode cX6_reaches 78 = .ok (.iaload, 1) := by decide +kernel
theorem dX6_reaches_79 : decode cX6_reaches 79 = .ok (.ishl, 1) := by decide +kernel
theorem dX6_reaches_80 : decode cX6_reaches 80 = .ok (.ior, 1) := by decide +kernel
theorem dX6_reaches_81 : decode cX6_reaches 81 = .ok (.istore 5, 2) := by decide +kernel
theorem dX6_reaches_83 : decode cX6_reaches 83 = .ok (.iinc 8 1, 3) := by decide +kernel
theorem dX6_reaches_86 : decode cX6_reaches 86 = .ok (.goto (-55), 3) := by decide +kernel
theorem dX6_reaches_89 : decode cX6_reaches 89 = .ok (.iload 5, 2) := by decide +kernel
theorem dX6_reaches_91 : decode cX6_reaches 91 = .ok (.iload 7, 2) := by decide +kernel
theorem dX6_reaches_93 : decode cX6_reaches 93 = .ok (.if_icmp .ne 6, 3) := by decide +kernel
theorem dX6_reaches_96 : decode cX6_reaches 96 = .ok (.goto 9, 3) := by decide +kernel
theorem dX6_reaches_99 : decode cX6_reaches 99 = .ok (.iinc 6 1, 3) := by decide +kernel
theorem dX6_reaches_102 : decode cX6_reaches 102 = .ok (.goto (-94), 3) := by decide +kernel
theorem dX6_reaches_105 : decode cX6_reaches 105 = .ok (.iload 5, 2) := by decide +kernel
theorem dX6_reaches_107 : decode cX6_reaches 107 = .ok (.iload_n 3, 1) := by decide +kernel
theorem dX6_reaches_108 : decode cX6_reaches 108 = .ok (.iushr, 1) := by decide +kernel
theorem dX6_reaches_109 : decode cX6_reaches 109 = .ok (.iconst 1, 1) := by decide +kernel
theorem dX6_reaches_110 : decode cX6_reaches 110 = .ok (.iand, 1) := by decide +kernel
theorem dX6_reaches_111 : decode cX6_reaches 111 = .ok (.ifCond .eq 7, 3) := by decide +kernel
theorem dX6_reaches_114 : decode cX6_reaches 114 = .ok (.iconst 1, 1) := by decide +kernel
theorem dX6_reaches_115 : decode cX6_reaches 115 = .ok (.goto 4, 3) := by decide +kernel
theorem dX6_reaches_118 : decode cX6_reaches 118 = .ok (.iconst 0, 1) := by decide +kernel
theorem dX6_reaches_119 : decode cX6_reaches 119 = .ok (.ireturn, 1) := by decide +kernel
theorem dX6_leastMetric_0 : decode cX6_leastMetric 0 = .ok (.iconst 0, 1) := by decide +kernel
theorem dX6_leastMetric_1 : decode cX6_leastMetric 1 = .ok (.istore 5, 2) := by decide +kernel
theorem dX6_leastMetric_3 : decode cX6_leastMetric 3 = .ok (.iload 5, 2) := by decide +kernel
theorem dX6_leastMetric_5 : decode cX6_leastMetric 5 = .ok (.bipush 8, 2) := by decide +kernel
theorem dX6_leastMetric_7 : decode cX6_leastMetric 7 = .ok (.if_icmp .ge 28, 3) := by decide +kernel
theorem dX6_leastMetric_10 : decode cX6_leastMetric 10 = .ok (.aload_n 0, 1) := by decide +kernel
theorem dX6_leastMetric_11 : decode cX6_leastMetric 11 = .ok (.getfield 15, 3) := by decide +kernel
theorem dX6_leastMetric_14 : decode cX6_leastMetric 14 = .ok (.iload 5, 2) := by decide +kernel
theorem dX6_leastMetric_16 : decode cX6_leastMetric 16 = .ok (.iload 5, 2) := by decide +kernel
theorem dX6_leastMetric_18 : decode cX6_leastMetric 18 = .ok (.iload_n 3, 1) := by decide +kernel
theorem dX6_leastMetric_19 : decode cX6_leastMetric 19 = .ok (.if_icmp .ne 7, 3) := by decide +kernel
theorem dX6_leastMetric_22 : decode cX6_leastMetric 22 = .ok (.iconst 0, 1) := by decide +kernel
theorem dX6_leastMetric_23 : decode cX6_leastMetric 23 = .ok (.goto 5, 3) := by decide +kernel
theorem dX6_leastMetric_26 : decode cX6_leastMetric 26 = .ok (.ldc 43, 2) := by decide +kernel
theorem dX6_leastMetric_28 : decode cX6_leastMetric 28 = .ok (.iastore, 1) := by decide +kernel
theorem dX6_leastMetric_29 : decode cX6_leastMetric 29 = .ok (.iinc 5 1, 3) := by decide +kernel
theorem dX6_leastMetric_32 : decode cX6_leastMetric 32 = .ok (.goto (-29), 3) := by decide +kernel
theorem dX6_leastMetric_35 : decode cX6_leastMetric 35 = .ok (.aload_n 0, 1) := by decide +kernel
theorem dX6_leastMetric_36 : decode cX6_leastMetric 36 = .ok (.iconst 0, 1) := by decide +kernel
theorem dX6_leastMetric_37 : decode cX6_leastMetric 37 = .ok (.putfield 44, 3) := by decide +kernel
theorem dX6_leastMetric_40 : decode cX6_leastMetric 40 = .ok (.iconst 1, 1) := by decide +kernel
theorem dX6_leastMetric_41 : decode cX6_leastMetric 41 = .ok (.istore 5, 2) := by decide +kernel
theorem dX6_leastMetric_43 : decode cX6_leastMetric 43 = .ok (.iload 5, 2) := by decide +kernel
theorem dX6_leastMetric_45 : decode cX6_leastMetric 45 = .ok (.ifCond .eq 177, 3) := by decide +kernel
theorem dX6_leastMetric_48 : decode cX6_leastMetric 48 = .ok (.aload_n 0, 1) := by decide +kernel
theorem dX6_leastMetric_49 : decode cX6_leastMetric 49 = .ok (.getfield 44, 3) := by decide +kernel
theorem dX6_leastMetric_52 : decode cX6_leastMetric 52 = .ok (.iload 4, 2) := by decide +kernel
theorem dX6_leastMetric_54 : decode cX6_leastMetric 54 = .ok (.if_icmp .ge 168, 3) := by decide +kernel
theorem dX6_leastMetric_57 : decode cX6_leastMetric 57 = .ok (.aload_n 0, 1) := by decide +kernel
theorem dX6_leastMetric_58 : decode cX6_leastMetric 58 = .ok (.getfield 44, 3) := by decide +kernel
theorem dX6_leastMetric_61 : decode cX6_leastMetric 61 = .ok (.bipush 7, 2) := by decide +kernel
theorem dX6_leastMetric_63 : decode cX6_leastMetric 63 = .ok (.if_icmp .ge 159, 3) := by decide +kernel
theorem dX6_leastMetric_66 : decode cX6_leastMetric 66 = .ok (.aload_n 0, 1) := by decide +kernel
theorem dX6_leastMetric_67 : decode cX6_leastMetric 67 = .ok (.getfield 44, 3) := by decide +kernel
theorem dX6_leastMetric_70 : decode cX6_leastMetric 70 = .ok (.bipush 8, 2) := by decide +kernel
theorem dX6_leastMetric_72 : decode cX6_leastMetric 72 = .ok (.imul, 1) := by decide +kernel
theorem dX6_leastMetric_73 : decode cX6_leastMetric 73 = .ok (.istore 6, 2) := by decide +kernel
theorem dX6_leastMetric_75 : decode cX6_leastMetric 75 = .ok (.iload 6, 2) := by decide +kernel
theorem dX6_leastMetric_77 : decode cX6_leastMetric 77 = .ok (.bipush 8, 2) := by decide +kernel
theorem dX6_leastMetric_79 : decode cX6_leastMetric 79 = .ok (.iadd, 1) := by decide +kernel
theorem dX6_leastMetric_80 : decode cX6_leastMetric 80 = .ok (.istore 7, 2) := by decide +kernel
theorem dX6_leastMetric_82 : decode cX6_leastMetric 82 = .ok (.aload_n 0, 1) := by decide +kernel
theorem dX6_leastMetric_83 : decode cX6_leastMetric 83 = .ok (.dup, 1) := by decide +kernel
theorem dX6_leastMetric_84 : decode cX6_leastMetric 84 = .ok (.getfield 44, 3) := by decide +kernel
theorem dX6_leastMetric_87 : decode cX6_leastMetric 87 = .ok (.iconst 1, 1) := by decide +kernel
theorem dX6_leastMetric_88 : decode cX6_leastMetric 88 = .ok (.iadd, 1) := by decide +kernel
theorem dX6_leastMetric_89 : decode cX6_leastMetric 89 = .ok (.putfield 44, 3) := by decide +kernel
theorem dX6_leastMetric_92 : decode cX6_leastMetric 92 = .ok (.iconst 0, 1) := by decide +kernel
theorem dX6_leastMetric_93 : decode cX6_leastMetric 93 = .ok (.istore 5, 2) := by decide +kernel
theorem dX6_leastMetric_95 : decode cX6_leastMetric 95 = .ok (.aload_n 0, 1) := by decide +kernel
theorem dX6_leastMetric_96 : decode cX6_leastMetric 96 = .ok (.getfield 15, 3) := by decide +kernel
theorem dX6_leastMetric_99 : decode cX6_leastMetric 99 = .ok (.iload 6, 2) := by decide +kernel
theorem dX6_leastMetric_101 : decode cX6_leastMetric 101 = .ok (.aload_n 0, 1) := by decide +kernel
theorem dX6_leastMetric_102 : decode cX6_leastMetric 102 = .ok (.getfield 15, 3) := by decide +kernel
theorem dX6_leastMetric_105 : decode cX6_leastMetric 105 = .ok (.iload 7, 2) := by decide +kernel
theorem dX6_leastMetric_107 : decode cX6_leastMetric 107 = .ok (.bipush 8, 2) := by decide +kernel
theorem dX6_leastMetric_109 : decode cX6_leastMetric 109 = .ok (.invokestatic 47, 3) := by decide +kernel
theorem dX6_leastMetric_112 : decode cX6_leastMetric 112 = .ok (.iconst 0, 1) := by decide +kernel
theorem dX6_leastMetric_113 : decode cX6_leastMetric 113 = .ok (.istore 8, 2) := by decide +kernel
theorem dX6_leastMetric_115 : decode cX6_leastMetric 115 = .ok (.iload 8, 2) := by decide +kernel
theorem dX6_leastMetric_117 : decode cX6_leastMetric 117 = .ok (.aload_n 0, 1) := by decide +kernel
theorem dX6_leastMetric_118 : decode cX6_leastMetric 118 = .ok (.getfield 27, 3) := by decide +kernel
theorem dX6_leastMetric_121 : decode cX6_leastMetric 121 = .ok (.getfield 31, 3) := by decide +kernel
theorem dX6_leastMetric_124 : decode cX6_leastMetric 124 = .ok (.if_icmp .ge 95, 3) := by decide +kernel
theorem dX6_leastMetric_127 : decode cX6_leastMetric 127 = .ok (.aload_n 0, 1) := by decide +kernel
theorem dX6_leastMetric_128 : decode cX6_leastMetric 128 = .ok (.getfield 27, 3) := by decide +kernel
theorem dX6_leastMetric_131 : decode cX6_leastMetric 131 = .ok (.getfield 53, 3) := by decide +kernel
theorem dX6_leastMetric_134 : decode cX6_leastMetric 134 = .ok (.iload 8, 2) := by decide +kernel
theorem dX6_leastMetric_136 : decode cX6_leastMetric 136 = .ok (.iaload, 1) := by decide +kernel
theorem dX6_leastMetric_137 : decode cX6_leastMetric 137 = .ok (.aload_n 0, 1) := by decide +kernel
theorem dX6_leastMetric_138 : decode cX6_leastMetric 138 = .ok (.getfield 15, 3) := by decide +kernel
theorem dX6_leastMetric_141 : decode cX6_leastMetric 141 = .ok (.iload 6, 2) := by decide +kernel
theorem dX6_leastMetric_143 : decode cX6_leastMetric 143 = .ok (.aload_n 0, 1) := by decide +kernel
theorem dX6_leastMetric_144 : decode cX6_leastMetric 144 = .ok (.getfield 27, 3) := by decide +kernel
theorem dX6_leastMetric_147 : decode cX6_leastMetric 147 = .ok (.getfield 40, 3) := by decide +kernel
theorem dX6_leastMetric_150 : decode cX6_leastMetric 150 = .ok (.iload 8, 2) := by decide +kernel
theorem dX6_leastMetric_152 : decode cX6_leastMetric 152 = .ok (.iaload, 1) := by decide +kernel
theorem dX6_leastMetric_153 : decode cX6_leastMetric 153 = .ok (.iadd, 1) := by decide +kernel
theorem dX6_leastMetric_154 : decode cX6_leastMetric 154 = .ok (.iaload, 1) := by decide +kernel
theorem dX6_leastMetric_155 : decode cX6_leastMetric 155 = .ok (.iadd, 1) := by decide +kernel
theorem dX6_leastMetric_156 : decode cX6_leastMetric 156 = .ok (.istore 9, 2) := by decide +kernel
theorem dX6_leastMetric_158 : decode cX6_leastMetric 158 = .ok (.iload_n 1, 1) := by decide +kernel
theorem dX6_leastMetric_159 : decode cX6_leastMetric 159 = .ok (.iload 8, 2) := by decide +kernel
theorem dX6_leastMetric_161 : decode cX6_leastMetric 161 = .ok (.iushr, 1) := by decide +kernel
theorem dX6_leastMetric_162 : decode cX6_leastMetric 162 = .ok (.iconst 1, 1) := by decide +kernel
theorem dX6_leastMetric_163 : decode cX6_leastMetric 163 = .ok (.iand, 1) := by decide +kernel
theorem dX6_leastMetric_164 : decode cX6_leastMetric 164 = .ok (.ifCond .eq 49, 3) := by decide +kernel
theorem dX6_leastMetric_167 : decode cX6_leastMetric 167 = .ok (.iload 9, 2) := by decide +kernel
theorem dX6_leastMetric_169 : decode cX6_leastMetric 169 = .ok (.aload_n 0, 1) := by decide +kernel
theorem dX6_leastMetric_170 : decode cX6_leastMetric 170 = .ok (.getfield 15, 3) := by decide +kernel
theorem dX6_leastMetric_173 : decode cX6_leastMetric 173 = .ok (.iload 7, 2) := by decide +kernel
theorem dX6_leastMetric_175 : decode cX6_leastMetric 175 = .ok (.aload_n 0, 1) := by decide +kernel
theorem dX6_leastMetric_176 : decode cX6_leastMetric 176 = .ok (.getfield 27, 3) := by decide +kernel
