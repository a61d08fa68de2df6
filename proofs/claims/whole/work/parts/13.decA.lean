theorem dX0_init_0 : decode cX0_init 0 = .ok (.aload_n 0, 1) := by decide +kernel
theorem dX0_init_1 : decode cX0_init 1 = .ok (.invokespecial 3, 3) := by decide +kernel
theorem dX0_init_4 : decode cX0_init 4 = .ok (.aload_n 0, 1) := by decide +kernel
theorem dX0_init_5 : decode cX0_init 5 = .ok (.iconst 4, 1) := by decide +kernel
theorem dX0_init_6 : decode cX0_init 6 = .ok (.bipush 20, 2) := by decide +kernel
theorem dX0_init_8 : decode cX0_init 8 = .ok (.multianewarray 9 2, 4) := by decide +kernel
theorem dX0_init_12 : decode cX0_init 12 = .ok (.putfield 11, 3) := by decide +kernel
theorem dX0_init_15 : decode cX0_init 15 = .ok (.return_, 1) := by decide +kernel
theorem dX0_has_0 : decode cX0_has 0 = .ok (.aload_n 0, 1) := by decide +kernel
theorem dX0_has_1 : decode cX0_has 1 = .ok (.getfield 11, 3) := by decide +kernel
theorem dX0_has_4 : decode cX0_has 4 = .ok (.iload_n 3, 1) := by decide +kernel
theorem dX0_has_5 : decode cX0_has 5 = .ok (.aaload, 1) := by decide +kernel
theorem dX0_has_6 : decode cX0_has 6 = .ok (.iload_n 1, 1) := by decide +kernel
theorem dX0_has_7 : decode cX0_has 7 = .ok (.iaload, 1) := by decide +kernel
theorem dX0_has_8 : decode cX0_has 8 = .ok (.iload_n 2, 1) := by decide +kernel
theorem dX0_has_9 : decode cX0_has 9 = .ok (.invokestatic 16, 3) := by decide +kernel
theorem dX0_has_12 : decode cX0_has 12 = .ok (.ireturn, 1) := by decide +kernel
theorem dX0_add_0 : decode cX0_add 0 = .ok (.aload_n 0, 1) := by decide +kernel
theorem dX0_add_1 : decode cX0_add 1 = .ok (.getfield 11, 3) := by decide +kernel
theorem dX0_add_4 : decode cX0_add 4 = .ok (.iload_n 3, 1) := by decide +kernel
theorem dX0_add_5 : decode cX0_add 5 = .ok (.aaload, 1) := by decide +kernel
theorem dX0_add_6 : decode cX0_add 6 = .ok (.iload_n 1, 1) := by decide +kernel
theorem dX0_add_7 : decode cX0_add 7 = .ok (.dup2, 1) := by decide +kernel
theorem dX0_add_8 : decode cX0_add 8 = .ok (.iaload, 1) := by decide +kernel
theorem dX0_add_9 : decode cX0_add 9 = .ok (.iconst 1, 1) := by decide +kernel
theorem dX0_add_10 : decode cX0_add 10 = .ok (.iload_n 2, 1) := by decide +kernel
theorem dX0_add_11 : decode cX0_add 11 = .ok (.ishl, 1) := by decide +kernel
theorem dX0_add_12 : decode cX0_add 12 = .ok (.ior, 1) := by decide +kernel
theorem dX0_add_13 : decode cX0_add 13 = .ok (.iastore, 1) := by decide +kernel
theorem dX0_add_14 : decode cX0_add 14 = .ok (.aload_n 0, 1) := by decide +kernel
theorem dX0_add_15 : decode cX0_add 15 = .ok (.dup, 1) := by decide +kernel
theorem dX0_add_16 : decode cX0_add 16 = .ok (.getfield 20, 3) := by decide +kernel
theorem dX0_add_19 : decode cX0_add 19 = .ok (.iconst 1, 1) := by decide +kernel
theorem dX0_add_20 : decode cX0_add 20 = .ok (.iadd, 1) := by decide +kernel
theorem dX0_add_21 : decode cX0_add 21 = .ok (.putfield 20, 3) := by decide +kernel
theorem dX0_add_24 : decode cX0_add 24 = .ok (.return_, 1) := by decide +kernel
theorem dX0_remove_0 : decode cX0_remove 0 = .ok (.aload_n 0, 1) := by decide +kernel
theorem dX0_remove_1 : decode cX0_remove 1 = .ok (.getfield 11, 3) := by decide +kernel
theorem dX0_remove_4 : decode cX0_remove 4 = .ok (.iload_n 3, 1) := by decide +kernel
theorem dX0_remove_5 : decode cX0_remove 5 = .ok (.aaload, 1) := by decide +kernel
theorem dX0_remove_6 : decode cX0_remove 6 = .ok (.iload_n 1, 1) := by decide +kernel
theorem dX0_remove_7 : decode cX0_remove 7 = .ok (.dup2, 1) := by decide +kernel
theorem dX0_remove_8 : decode cX0_remove 8 = .ok (.iaload, 1) := by decide +kernel
theorem dX0_remove_9 : decode cX0_remove 9 = .ok (.iconst 1, 1) := by decide +kernel
theorem dX0_remove_10 : decode cX0_remove 10 = .ok (.iload_n 2, 1) := by decide +kernel
theorem dX0_remove_11 : decode cX0_remove 11 = .ok (.ishl, 1) := by decide +kernel
theorem dX0_remove_12 : decode cX0_remove 12 = .ok (.iconst (-1), 1) := by decide +kernel
theorem dX0_remove_13 : decode cX0_remove 13 = .ok (.ixor, 1) := by decide +kernel
theorem dX0_remove_14 : decode cX0_remove 14 = .ok (.iand, 1) := by decide +kernel
theorem dX0_remove_15 : decode cX0_remove 15 = .ok (.iastore, 1) := by decide +kernel
theorem dX0_remove_16 : decode cX0_remove 16 = .ok (.aload_n 0, 1) := by decide +kernel
theorem dX0_remove_17 : decode cX0_remove 17 = .ok (.dup, 1) := by decide +kernel
theorem dX0_remove_18 : decode cX0_remove 18 = .ok (.getfield 20, 3) := by decide +kernel
theorem dX0_remove_21 : decode cX0_remove 21 = .ok (.iconst 1, 1) := by decide +kernel
theorem dX0_remove_22 : decode cX0_remove 22 = .ok (.isub, 1) := by decide +kernel
theorem dX0_remove_23 : decode cX0_remove 23 = .ok (.putfield 20, 3) := by decide +kernel
theorem dX0_remove_26 : decode cX0_remove 26 = .ok (.return_, 1) := by decide +kernel
theorem dX1_init_0 : decode cX1_init 0 = .ok (.aload_n 0, 1) := by decide +kernel
theorem dX1_init_1 : decode cX1_init 1 = .ok (.invokespecial 3, 3) := by decide +kernel
theorem dX1_init_4 : decode cX1_init 4 = .ok (.aload_n 0, 1) := by decide +kernel
theorem dX1_init_5 : decode cX1_init 5 = .ok (.iconst (-1), 1) := by decide +kernel
theorem dX1_init_6 : decode cX1_init 6 = .ok (.putfield 9, 3) := by decide +kernel
theorem dX1_init_9 : decode cX1_init 9 = .ok (.aload_n 0, 1) := by decide +kernel
theorem dX1_init_10 : decode cX1_init 10 = .ok (.bipush 20, 2) := by decide +kernel
theorem dX1_init_12 : decode cX1_init 12 = .ok (.newarray .int, 2) := by decide +kernel
theorem dX1_init_14 : decode cX1_init 14 = .ok (.putfield 15, 3) := by decide +kernel
theorem dX1_init_17 : decode cX1_init 17 = .ok (.aload_n 0, 1) := by decide +kernel
theorem dX1_init_18 : decode cX1_init 18 = .ok (.aload_n 1, 1) := by decide +kernel
theorem dX1_init_19 : decode cX1_init 19 = .ok (.putfield 19, 3) := by decide +kernel
theorem dX1_init_22 : decode cX1_init 22 = .ok (.aload_n 0, 1) := by decide +kernel
theorem dX1_init_23 : decode cX1_init 23 = .ok (.aload_n 2, 1) := by decide +kernel
theorem dX1_init_24 : decode cX1_init 24 = .ok (.putfield 23, 3) := by decide +kernel
theorem dX1_init_27 : decode cX1_init 27 = .ok (.return_, 1) := by decide +kernel
theorem dX1_measure_0 : decode cX1_measure 0 = .ok (.aload_n 0, 1) := by decide +kernel
theorem dX1_measure_1 : decode cX1_measure 1 = .ok (.getfield 23, 3) := by decide +kernel
theorem dX1_measure_4 : decode cX1_measure 4 = .ok (.invokevirtual 27, 3) := by decide +kernel
theorem dX1_measure_7 : decode cX1_measure 7 = .ok (.aload_n 0, 1) := by decide +kernel
theorem dX1_measure_8 : decode cX1_measure 8 = .ok (.iload_n 1, 1) := by decide +kernel
theorem dX1_measure_9 : decode cX1_measure 9 = .ok (.putfield 9, 3) := by decide +kernel
theorem dX1_measure_12 : decode cX1_measure 12 = .ok (.iconst 0, 1) := by decide +kernel
theorem dX1_measure_13 : decode cX1_measure 13 = .ok (.istore_n 2, 1) := by decide +kernel
theorem dX1_measure_14 : decode cX1_measure 14 = .ok (.iload_n 2, 1) := by decide +kernel
theorem dX1_measure_15 : decode cX1_measure 15 = .ok (.aload_n 0, 1) := by decide +kernel
theorem dX1_measure_16 : decode cX1_measure 16 = .ok (.getfield 23, 3) := by decide +kernel
theorem dX1_measure_19 : decode cX1_measure 19 = .ok (.getfield 32, 3) := by decide +kernel
theorem dX1_measure_22 : decode cX1_measure 22 = .ok (.if_icmp .ge 65, 3) := by decide +kernel
theorem dX1_measure_25 : decode cX1_measure 25 = .ok (.aload_n 0, 1) := by decide +kernel
theorem dX1_measure_26 : decode cX1_measure 26 = .ok (.getfield 23, 3) := by decide +kernel
theorem dX1_measure_29 : decode cX1_measure 29 = .ok (.getfield 35, 3) := by decide +kernel
theorem dX1_measure_32 : decode cX1_measure 32 = .ok (.iload_n 2, 1) := by decide +kernel
theorem dX1_measure_33 : decode cX1_measure 33 = .ok (.iaload, 1) := by decide +kernel
theorem dX1_measure_34 : decode cX1_measure 34 = .ok (.istore_n 3, 1) := by decide +kernel
theorem dX1_measure_35 : decode cX1_measure 35 = .ok (.aload_n 0, 1) := by decide +kernel
theorem dX1_measure_36 : decode cX1_measure 36 = .ok (.getfield 23, 3) := by decide +kernel
theorem dX1_measure_39 : decode cX1_measure 39 = .ok (.getfield 38, 3) := by decide +kernel
theorem dX1_measure_42 : decode cX1_measure 42 = .ok (.iload_n 3, 1) := by decide +kernel
theorem dX1_measure_43 : decode cX1_measure 43 = .ok (.iaload, 1) := by decide +kernel
theorem dX1_measure_44 : decode cX1_measure 44 = .ok (.istore 4, 2) := by decide +kernel
theorem dX1_measure_46 : decode cX1_measure 46 = .ok (.aload_n 0, 1) := by decide +kernel
theorem dX1_measure_47 : decode cX1_measure 47 = .ok (.iload 4, 2) := by decide +kernel
theorem dX1_measure_49 : decode cX1_measure 49 = .ok (.aload_n 0, 1) := by decide +kernel
theorem dX1_measure_50 : decode cX1_measure 50 = .ok (.getfield 23, 3) := by decide +kernel
theorem dX1_measure_53 : decode cX1_measure 53 = .ok (.getfield 41, 3) := by decide +kernel
theorem dX1_measure_56 : decode cX1_measure 56 = .ok (.iload_n 3, 1) := by decide +kernel
theorem dX1_measure_57 : decode cX1_measure 57 = .ok (.invokestatic 44, 3) := by decide +kernel
theorem dX1_measure_60 : decode cX1_measure 60 = .ok (.ifCond .eq 12, 3) := by decide +kernel
theorem dX1_measure_63 : decode cX1_measure 63 = .ok (.aload_n 0, 1) := by decide +kernel
theorem dX1_measure_64 : decode cX1_measure 64 = .ok (.iload 4, 2) := by decide +kernel
theorem dX1_measure_66 : decode cX1_measure 66 = .ok (.invokevirtual 48, 3) := by decide +kernel
theorem dX1_measure_69 : decode cX1_measure 69 = .ok (.goto 9, 3) := by decide +kernel
theorem dX1_measure_72 : decode cX1_measure 72 = .ok (.aload_n 0, 1) := by decide +kernel
theorem dX1_measure_73 : decode cX1_measure 73 = .ok (.iload 4, 2) := by decide +kernel
theorem dX1_measure_75 : decode cX1_measure 75 = .ok (.invokevirtual 52, 3) := by decide +kernel
theorem dX1_measure_78 : decode cX1_measure 78 = .ok (.invokevirtual 55, 3) := by decide +kernel
theorem dX1_measure_81 : decode cX1_measure 81 = .ok (.iinc 2 1, 3) := by decide +kernel
theorem dX1_measure_84 : decode cX1_measure 84 = .ok (.goto (-70), 3) := by decide +kernel
theorem dX1_measure_87 : decode cX1_measure 87 = .ok (.return_, 1) := by decide +kernel
theorem dX1_nextOnWay_0 : decode cX1_nextOnWay 0 = .ok (.aload_n 0, 1) := by decide +kernel
theorem dX1_nextOnWay_1 : decode cX1_nextOnWay 1 = .ok (.getfield 15, 3) := by decide +kernel
theorem dX1_nextOnWay_4 : decode cX1_nextOnWay 4 = .ok (.iload_n 1, 1) := by decide +kernel
theorem dX1_nextOnWay_5 : decode cX1_nextOnWay 5 = .ok (.iaload, 1) := by decide +kernel
theorem dX1_nextOnWay_6 : decode cX1_nextOnWay 6 = .ok (.istore_n 2, 1) := by decide +kernel
theorem dX1_nextOnWay_7 : decode cX1_nextOnWay 7 = .ok (.aload_n 0, 1) := by decide +kernel
theorem dX1_nextOnWay_8 : decode cX1_nextOnWay 8 = .ok (.iload_n 1, 1) := by decide +kernel
theorem dX1_nextOnWay_9 : decode cX1_nextOnWay 9 = .ok (.invokevirtual 59, 3) := by decide +kernel
theorem dX1_nextOnWay_12 : decode cX1_nextOnWay 12 = .ok (.iload_n 2, 1) := by decide +kernel
theorem dX1_nextOnWay_13 : decode cX1_nextOnWay 13 = .ok (.if_icmp .ge 18, 3) := by decide +kernel
theorem dX1_nextOnWay_16 : decode cX1_nextOnWay 16 = .ok (.aload_n 0, 1) := by decide +kernel
theorem dX1_nextOnWay_17 : decode cX1_nextOnWay 17 = .ok (.aload_n 0, 1) := by decide +kernel
theorem dX1_nextOnWay_18 : decode cX1_nextOnWay 18 = .ok (.getfield 23, 3) := by decide +kernel
theorem dX1_nextOnWay_21 : decode cX1_nextOnWay 21 = .ok (.getfield 38, 3) := by decide +kernel
theorem dX1_nextOnWay_24 : decode cX1_nextOnWay 24 = .ok (.iload_n 1, 1) := by decide +kernel
theorem dX1_nextOnWay_25 : decode cX1_nextOnWay 25 = .ok (.iaload, 1) := by decide +kernel
theorem dX1_nextOnWay_26 : decode cX1_nextOnWay 26 = .ok (.iload_n 2, 1) := by decide +kernel
theorem dX1_nextOnWay_27 : decode cX1_nextOnWay 27 = .ok (.invokevirtual 62, 3) := by decide +kernel
theorem dX1_nextOnWay_30 : decode cX1_nextOnWay 30 = .ok (.ireturn, 1) := by decide +kernel
theorem dX1_nextOnWay_31 : decode cX1_nextOnWay 31 = .ok (.aload_n 0, 1) := by decide +kernel
theorem dX1_nextOnWay_32 : decode cX1_nextOnWay 32 = .ok (.aload_n 0, 1) := by decide +kernel
theorem dX1_nextOnWay_33 : decode cX1_nextOnWay 33 = .ok (.getfield 23, 3) := by decide +kernel
theorem dX1_nextOnWay_36 : decode cX1_nextOnWay 36 = .ok (.getfield 66, 3) := by decide +kernel
theorem dX1_nextOnWay_39 : decode cX1_nextOnWay 39 = .ok (.iload_n 1, 1) := by decide +kernel
theorem dX1_nextOnWay_40 : decode cX1_nextOnWay 40 = .ok (.iaload, 1) := by decide +kernel
theorem dX1_nextOnWay_41 : decode cX1_nextOnWay 41 = .ok (.iload_n 2, 1) := by decide +kernel
theorem dX1_nextOnWay_42 : decode cX1_nextOnWay 42 = .ok (.aload_n 0, 1) := by decide +kernel
theorem dX1_nextOnWay_43 : decode cX1_nextOnWay 43 = .ok (.iload_n 1, 1) := by decide +kernel
theorem dX1_nextOnWay_44 : decode cX1_nextOnWay 44 = .ok (.invokevirtual 69, 3) := by decide +kernel
theorem dX1_nextOnWay_47 : decode cX1_nextOnWay 47 = .ok (.isub, 1) := by decide +kernel
theorem dX1_nextOnWay_48 : decode cX1_nextOnWay 48 = .ok (.invokevirtual 72, 3) := by decide +kernel
theorem dX1_nextOnWay_51 : decode cX1_nextOnWay 51 = .ok (.istore_n 3, 1) := by decide +kernel
theorem dX1_nextOnWay_52 : decode cX1_nextOnWay 52 = .ok (.iload_n 3, 1) := by decide +kernel
theorem dX1_nextOnWay_53 : decode cX1_nextOnWay 53 = .ok (.bipush (-4), 2) := by decide +kernel
theorem dX1_nextOnWay_55 : decode cX1_nextOnWay 55 = .ok (.if_icmp .eq 5, 3) := by decide +kernel
theorem dX1_nextOnWay_58 : decode cX1_nextOnWay 58 = .ok (.iload_n 3, 1) := by decide +kernel
theorem dX1_nextOnWay_59 : decode cX1_nextOnWay 59 = .ok (.ireturn, 1) := by decide +kernel
theorem dX1_nextOnWay_60 : decode cX1_nextOnWay 60 = .ok (.aload_n 0, 1) := by decide +kernel
theorem dX1_nextOnWay_61 : decode cX1_nextOnWay 61 = .ok (.aload_n 0, 1) := by decide +kernel
theorem dX1_nextOnWay_62 : decode cX1_nextOnWay 62 = .ok (.getfield 23, 3) := by decide +kernel
theorem dX1_nextOnWay_65 : decode cX1_nextOnWay 65 = .ok (.getfield 75, 3) := by decide +kernel
theorem dX1_nextOnWay_68 : decode cX1_nextOnWay 68 = .ok (.iload_n 1, 1) := by decide +kernel
theorem dX1_nextOnWay_69 : decode cX1_nextOnWay 69 = .ok (.iaload, 1) := by decide +kernel
theorem dX1_nextOnWay_70 : decode cX1_nextOnWay 70 = .ok (.aload_n 0, 1) := by decide +kernel
theorem dX1_nextOnWay_71 : decode cX1_nextOnWay 71 = .ok (.getfield 23, 3) := by decide +kernel
theorem dX1_nextOnWay_74 : decode cX1_nextOnWay 74 = .ok (.getfield 38, 3) := by decide +kernel
theorem dX1_nextOnWay_77 : decode cX1_nextOnWay 77 = .ok (.iload_n 1, 1) := by decide +kernel
theorem dX1_nextOnWay_78 : decode cX1_nextOnWay 78 = .ok (.iaload, 1) := by decide +kernel
theorem dX1_nextOnWay_79 : decode cX1_nextOnWay 79 = .ok (.iconst (-1), 1) := by decide +kernel
theorem dX1_nextOnWay_80 : decode cX1_nextOnWay 80 = .ok (.ixor, 1) := by decide +kernel
theorem dX1_nextOnWay_81 : decode cX1_nextOnWay 81 = .ok (.iand, 1) := by decide +kernel
theorem dX1_nextOnWay_82 : decode cX1_nextOnWay 82 = .ok (.iload_n 2, 1) := by decide +kernel
theorem dX1_nextOnWay_83 : decode cX1_nextOnWay 83 = .ok (.invokevirtual 72, 3) := by decide +kernel
theorem dX1_nextOnWay_86 : decode cX1_nextOnWay 86 = .ok (.ireturn, 1) := by decide +kernel
theorem dX1_spread_0 : decode cX1_spread 0 = .ok (.iconst 0, 1) := by decide +kernel
theorem dX1_spread_1 : decode cX1_spread 1 = .ok (.istore_n 3, 1) := by decide +kernel
theorem dX1_spread_2 : decode cX1_spread 2 = .ok (.iload_n 3, 1) := by decide +kernel
theorem dX1_spread_3 : decode cX1_spread 3 = .ok (.aload_n 0, 1) := by decide +kernel
theorem dX1_spread_4 : decode cX1_spread 4 = .ok (.getfield 19, 3) := by decide +kernel
theorem dX1_spread_7 : decode cX1_spread 7 = .ok (.getfield 78, 3) := by decide +kernel
theorem dX1_spread_10 : decode cX1_spread 10 = .ok (.if_icmp .ge 24, 3) := by decide +kernel
theorem dX1_spread_13 : decode cX1_spread 13 = .ok (.iload_n 1, 1) := by decide +kernel
theorem dX1_spread_14 : decode cX1_spread 14 = .ok (.iload_n 3, 1) := by decide +kernel
theorem dX1_spread_15 : decode cX1_spread 15 = .ok (.invokestatic 44, 3) := by decide +kernel
theorem dX1_spread_18 : decode cX1_spread 18 = .ok (.ifCond .eq 10, 3) := by decide +kernel
theorem dX1_spread_21 : decode cX1_spread 21 = .ok (.aload_n 0, 1) := by decide +kernel
theorem dX1_spread_22 : decode cX1_spread 22 = .ok (.getfield 15, 3) := by decide +kernel
theorem dX1_spread_25 : decode cX1_spread 25 = .ok (.iload_n 3, 1) := by decide +kernel
theorem dX1_spread_26 : decode cX1_spread 26 = .ok (.iload_n 2, 1) := by decide +kernel
theorem dX1_spread_27 : decode cX1_spread 27 = .ok (.iastore, 1) := by decide +kernel
theorem dX1_spread_28 : decode cX1_spread 28 = .ok (.iinc 3 1, 3) := by decide +kernel
theorem dX1_spread_31 : decode cX1_spread 31 = .ok (.goto (-29), 3) := by decide +kernel
theorem dX1_spread_34 : decode cX1_spread 34 = .ok (.return_, 1) := by decide +kernel
theorem dX1_depthOfRing_0 : decode cX1_depthOfRing 0 = .ok (.iconst 0, 1) := by decide +kernel
theorem dX1_depthOfRing_1 : decode cX1_depthOfRing 1 = .ok (.istore_n 2, 1) := by decide +kernel
theorem dX1_depthOfRing_2 : decode cX1_depthOfRing 2 = .ok (.iconst 0, 1) := by decide +kernel
theorem dX1_depthOfRing_3 : decode cX1_depthOfRing 3 = .ok (.istore_n 3, 1) := by decide +kernel
theorem dX1_depthOfRing_4 : decode cX1_depthOfRing 4 = .ok (.iconst 0, 1) := by decide +kernel
theorem dX1_depthOfRing_5 : decode cX1_depthOfRing 5 = .ok (.istore 4, 2) := by decide +kernel
theorem dX1_depthOfRing_7 : decode cX1_depthOfRing 7 = .ok (.iload 4, 2) := by decide +kernel
theorem dX1_depthOfRing_9 : decode cX1_depthOfRing 9 = .ok (.aload_n 0, 1) := by decide +kernel
theorem dX1_depthOfRing_10 : decode cX1_depthOfRing 10 = .ok (.getfield 19, 3) := by decide +kernel
theorem dX1_depthOfRing_13 : decode cX1_depthOfRing 13 = .ok (.getfield 78, 3) := by decide +kernel
theorem dX1_depthOfRing_16 : decode cX1_depthOfRing 16 = .ok (.if_icmp .ge 88, 3) := by decide +kernel
theorem dX1_depthOfRing_19 : decode cX1_depthOfRing 19 = .ok (.iload_n 1, 1) := by decide +kernel
theorem dX1_depthOfRing_20 : decode cX1_depthOfRing 20 = .ok (.iload 4, 2) := by decide +kernel
theorem dX1_depthOfRing_22 : decode cX1_depthOfRing 22 = .ok (.invokestatic 44, 3) := by decide +kernel
theorem dX1_depthOfRing_25 : decode cX1_depthOfRing 25 = .ok (.ifCond .eq 73, 3) := by decide +kernel
theorem dX1_depthOfRing_28 : decode cX1_depthOfRing 28 = .ok (.aload_n 0, 1) := by decide +kernel
theorem dX1_depthOfRing_29 : decode cX1_depthOfRing 29 = .ok (.getfield 19, 3) := by decide +kernel
theorem dX1_depthOfRing_32 : decode cX1_depthOfRing 32 = .ok (.getfield 83, 3) := by decide +kernel
theorem dX1_depthOfRing_35 : decode cX1_depthOfRing 35 = .ok (.iload 4, 2) := by decide +kernel
theorem dX1_depthOfRing_37 : decode cX1_depthOfRing 37 = .ok (.iaload, 1) := by decide +kernel
theorem dX1_depthOfRing_38 : decode cX1_depthOfRing 38 = .ok (.ifCond .ne 6, 3) := by decide +kernel
theorem dX1_depthOfRing_41 : decode cX1_depthOfRing 41 = .ok (.bipush (-5), 2) := by decide +kernel
theorem dX1_depthOfRing_43 : decode cX1_depthOfRing 43 = .ok (.ireturn, 1) := by decide +kernel
theorem dX1_depthOfRing_44 : decode cX1_depthOfRing 44 = .ok (.iload_n 2, 1) := by decide +kernel
theorem dX1_depthOfRing_45 : decode cX1_depthOfRing 45 = .ok (.aload_n 0, 1) := by decide +kernel
theorem dX1_depthOfRing_46 : decode cX1_depthOfRing 46 = .ok (.iload 4, 2) := by decide +kernel
theorem dX1_depthOfRing_48 : decode cX1_depthOfRing 48 = .ok (.invokevirtual 69, 3) := by decide +kernel
theorem dX1_depthOfRing_51 : decode cX1_depthOfRing 51 = .ok (.aload_n 0, 1) := by decide +kernel
theorem dX1_depthOfRing_52 : decode cX1_depthOfRing 52 = .ok (.getfield 19, 3) := by decide +kernel
theorem dX1_depthOfRing_55 : decode cX1_depthOfRing 55 = .ok (.getfield 83, 3) := by decide +kernel
theorem dX1_depthOfRing_58 : decode cX1_depthOfRing 58 = .ok (.iload 4, 2) := by decide +kernel
theorem dX1_depthOfRing_60 : decode cX1_depthOfRing 60 = .ok (.iaload, 1) := by decide +kernel
theorem dX1_depthOfRing_61 : decode cX1_depthOfRing 61 = .ok (.imul, 1) := by decide +kernel
theorem dX1_depthOfRing_62 : decode cX1_depthOfRing 62 = .ok (.iadd, 1) := by decide +kernel
theorem dX1_depthOfRing_63 : decode cX1_depthOfRing 63 = .ok (.istore_n 2, 1) := by decide +kernel
theorem dX1_depthOfRing_64 : decode cX1_depthOfRing 64 = .ok (.iload_n 3, 1) := by decide +kernel
theorem dX1_depthOfRing_65 : decode cX1_depthOfRing 65 = .ok (.aload_n 0, 1) := by decide +kernel
theorem dX1_depthOfRing_66 : decode cX1_depthOfRing 66 = .ok (.aload_n 0, 1) := by decide +kernel
theorem dX1_depthOfRing_67 : decode cX1_depthOfRing 67 = .ok (.getfield 23, 3) := by decide +kernel
theorem dX1_depthOfRing_70 : decode cX1_depthOfRing 70 = .ok (.getfield 66, 3) := by decide +kernel
theorem dX1_depthOfRing_73 : decode cX1_depthOfRing 73 = .ok (.iload 4, 2) := by decide +kernel
theorem dX1_depthOfRing_75 : decode cX1_depthOfRing 75 = .ok (.iaload, 1) := by decide +kernel
theorem dX1_depthOfRing_76 : decode cX1_depthOfRing 76 = .ok (.aload_n 0, 1) := by decide +kernel
theorem dX1_depthOfRing_77 : decode cX1_depthOfRing 77 = .ok (.getfield 23, 3) := by decide +kernel
theorem dX1_depthOfRing_80 : decode cX1_depthOfRing 80 = .ok (.getfield 75, 3) := by decide +kernel
theorem dX1_depthOfRing_83 : decode cX1_depthOfRing 83 = .ok (.iload 4, 2) := by decide +kernel
theorem dX1_depthOfRing_85 : decode cX1_depthOfRing 85 = .ok (.iaload, 1) := by decide +kernel
theorem dX1_depthOfRing_86 : decode cX1_depthOfRing 86 = .ok (.ior, 1) := by decide +kernel
theorem dX1_depthOfRing_87 : decode cX1_depthOfRing 87 = .ok (.iload_n 1, 1) := by decide +kernel
theorem dX1_depthOfRing_88 : decode cX1_depthOfRing 88 = .ok (.iconst (-1), 1) := by decide +kernel
theorem dX1_depthOfRing_89 : decode cX1_depthOfRing 89 = .ok (.ixor, 1) := by decide +kernel
theorem dX1_depthOfRing_90 : decode cX1_depthOfRing 90 = .ok (.iand, 1) := by decide +kernel
theorem dX1_depthOfRing_91 : decode cX1_depthOfRing 91 = .ok (.invokevirtual 86, 3) := by decide +kernel
theorem dX1_depthOfRing_94 : decode cX1_depthOfRing 94 = .ok (.invokestatic 89, 3) := by decide +kernel
theorem dX1_depthOfRing_97 : decode cX1_depthOfRing 97 = .ok (.istore_n 3, 1) := by decide +kernel
theorem dX1_depthOfRing_98 : decode cX1_depthOfRing 98 = .ok (.iinc 4 1, 3) := by decide +kernel
theorem dX1_depthOfRing_101 : decode cX1_depthOfRing 101 = .ok (.goto (-94), 3) := by decide +kernel
theorem dX1_depthOfRing_104 : decode cX1_depthOfRing 104 = .ok (.iload_n 2, 1) := by decide +kernel
theorem dX1_depthOfRing_105 : decode cX1_depthOfRing 105 = .ok (.iload_n 3, 1) := by decide +kernel
theorem dX1_depthOfRing_106 : decode cX1_depthOfRing 106 = .ok (.invokestatic 92, 3) := by decide +kernel
theorem dX1_depthOfRing_109 : decode cX1_depthOfRing 109 = .ok (.ireturn, 1) := by decide +kernel
theorem dX1_depthOfTails_0 : decode cX1_depthOfTails 0 = .ok (.iconst 0, 1) := by decide +kernel
theorem dX1_depthOfTails_1 : decode cX1_depthOfTails 1 = .ok (.istore_n 2, 1) := by decide +kernel
theorem dX1_depthOfTails_2 : decode cX1_depthOfTails 2 = .ok (.iconst 0, 1) := by decide +kernel
theorem dX1_depthOfTails_3 : decode cX1_depthOfTails 3 = .ok (.istore_n 3, 1) := by decide +kernel
theorem dX1_depthOfTails_4 : decode cX1_depthOfTails 4 = .ok (.iload_n 3, 1) := by decide +kernel
theorem dX1_depthOfTails_5 : decode cX1_depthOfTails 5 = .ok (.aload_n 0, 1) := by decide +kernel
theorem dX1_depthOfTails_6 : decode cX1_depthOfTails 6 = .ok (.getfield 19, 3) := by decide +kernel
theorem dX1_depthOfTails_9 : decode cX1_depthOfTails 9 = .ok (.getfield 78, 3) := by decide +kernel
theorem dX1_depthOfTails_12 : decode cX1_depthOfTails 12 = .ok (.if_icmp .ge 27, 3) := by decide +kernel
theorem dX1_depthOfTails_15 : decode cX1_depthOfTails 15 = .ok (.iload_n 1, 1) := by decide +kernel
theorem dX1_depthOfTails_16 : decode cX1_depthOfTails 16 = .ok (.iload_n 3, 1) := by decide +kernel
theorem dX1_depthOfTails_17 : decode cX1_depthOfTails 17 = .ok (.invokestatic 44, 3) := by decide +kernel
theorem dX1_depthOfTails_20 : decode cX1_depthOfTails 20 = .ok (.ifCond .eq 13, 3) := by decide +kernel
theorem dX1_depthOfTails_23 : decode cX1_depthOfTails 23 = .ok (.iload_n 2, 1) := by decide +kernel
theorem dX1_depthOfTails_24 : decode cX1_depthOfTails 24 = .ok (.aload_n 0, 1) := by decide +kernel
theorem dX1_depthOfTails_25 : decode cX1_depthOfTails 25 = .ok (.iload_n 3, 1) := by decide +kernel
theorem dX1_depthOfTails_26 : decode cX1_depthOfTails 26 = .ok (.invokevirtual 59, 3) := by decide +kernel
theorem dX1_depthOfTails_29 : decode cX1_depthOfTails 29 = .ok (.invokestatic 89, 3) := by decide +kernel
theorem dX1_depthOfTails_32 : decode cX1_depthOfTails 32 = .ok (.istore_n 2, 1) := by decide +kernel
theorem dX1_depthOfTails_33 : decode cX1_depthOfTails 33 = .ok (.iinc 3 1, 3) := by decide +kernel
theorem dX1_depthOfTails_36 : decode cX1_depthOfTails 36 = .ok (.goto (-32), 3) := by decide +kernel
theorem dX1_depthOfTails_39 : decode cX1_depthOfTails 39 = .ok (.iload_n 2, 1) := by decide +kernel
theorem dX1_depthOfTails_40 : decode cX1_depthOfTails 40 = .ok (.ireturn, 1) := by decide +kernel
theorem dX1_depthOfItself_0 : decode cX1_depthOfItself 0 = .ok (.aload_n 0, 1) := by decide +kernel
theorem dX1_depthOfItself_1 : decode cX1_depthOfItself 1 = .ok (.iload_n 1, 1) := by decide +kernel
theorem dX1_depthOfItself_2 : decode cX1_depthOfItself 2 = .ok (.invokevirtual 69, 3) := by decide +kernel
theorem dX1_depthOfItself_5 : decode cX1_depthOfItself 5 = .ok (.aload_n 0, 1) := by decide +kernel
theorem dX1_depthOfItself_6 : decode cX1_depthOfItself 6 = .ok (.aload_n 0, 1) := by decide +kernel
theorem dX1_depthOfItself_7 : decode cX1_depthOfItself 7 = .ok (.getfield 23, 3) := by decide +kernel
theorem dX1_depthOfItself_10 : decode cX1_depthOfItself 10 = .ok (.getfield 66, 3) := by decide +kernel
theorem dX1_depthOfItself_13 : decode cX1_depthOfItself 13 = .ok (.iload_n 1, 1) := by decide +kernel
theorem dX1_depthOfItself_14 : decode cX1_depthOfItself 14 = .ok (.iaload, 1) := by decide +kernel
theorem dX1_depthOfItself_15 : decode cX1_depthOfItself 15 = .ok (.invokevirtual 86, 3) := by decide +kernel
theorem dX1_depthOfItself_18 : decode cX1_depthOfItself 18 = .ok (.invokestatic 92, 3) := by decide +kernel
theorem dX1_depthOfItself_21 : decode cX1_depthOfItself 21 = .ok (.istore_n 2, 1) := by decide +kernel
theorem dX1_depthOfItself_22 : decode cX1_depthOfItself 22 = .ok (.iload_n 2, 1) := by decide +kernel
theorem dX1_depthOfItself_23 : decode cX1_depthOfItself 23 = .ok (.aload_n 0, 1) := by decide +kernel
theorem dX1_depthOfItself_24 : decode cX1_depthOfItself 24 = .ok (.aload_n 0, 1) := by decide +kernel
theorem dX1_depthOfItself_25 : decode cX1_depthOfItself 25 = .ok (.getfield 23, 3) := by decide +kernel
theorem dX1_depthOfItself_28 : decode cX1_depthOfItself 28 = .ok (.getfield 75, 3) := by decide +kernel
theorem dX1_depthOfItself_31 : decode cX1_depthOfItself 31 = .ok (.iload_n 1, 1) := by decide +kernel
theorem dX1_depthOfItself_32 : decode cX1_depthOfItself 32 = .ok (.iaload, 1) := by decide +kernel
theorem dX1_depthOfItself_33 : decode cX1_depthOfItself 33 = .ok (.aload_n 0, 1) := by decide +kernel
theorem dX1_depthOfItself_34 : decode cX1_depthOfItself 34 = .ok (.getfield 23, 3) := by decide +kernel
theorem dX1_depthOfItself_37 : decode cX1_depthOfItself 37 = .ok (.getfield 38, 3) := by decide +kernel
theorem dX1_depthOfItself_40 : decode cX1_depthOfItself 40 = .ok (.iload_n 1, 1) := by decide +kernel
theorem dX1_depthOfItself_41 : decode cX1_depthOfItself 41 = .ok (.iaload, 1) := by decide +kernel
theorem dX1_depthOfItself_42 : decode cX1_depthOfItself 42 = .ok (.iconst (-1), 1) := by decide +kernel
theorem dX1_depthOfItself_43 : decode cX1_depthOfItself 43 = .ok (.ixor, 1) := by decide +kernel
theorem dX1_depthOfItself_44 : decode cX1_depthOfItself 44 = .ok (.iand, 1) := by decide +kernel
theorem dX1_depthOfItself_45 : decode cX1_depthOfItself 45 = .ok (.invokevirtual 86, 3) := by decide +kernel
theorem dX1_depthOfItself_48 : decode cX1_depthOfItself 48 = .ok (.invokestatic 89, 3) := by decide +kernel
theorem dX1_depthOfItself_51 : decode cX1_depthOfItself 51 = .ok (.ireturn, 1) := by decide +kernel
theorem dX1_frameOf_0 : decode cX1_frameOf 0 = .ok (.iload_n 1, 1) := by decide +kernel
theorem dX1_frameOf_1 : decode cX1_frameOf 1 = .ok (.aload_n 0, 1) := by decide +kernel
theorem dX1_frameOf_2 : decode cX1_frameOf 2 = .ok (.getfield 9, 3) := by decide +kernel
theorem dX1_frameOf_5 : decode cX1_frameOf 5 = .ok (.if_icmp .ne 7, 3) := by decide +kernel
theorem dX1_frameOf_8 : decode cX1_frameOf 8 = .ok (.iconst 0, 1) := by decide +kernel
theorem dX1_frameOf_9 : decode cX1_frameOf 9 = .ok (.goto 12, 3) := by decide +kernel
theorem dX1_frameOf_12 : decode cX1_frameOf 12 = .ok (.aload_n 0, 1) := by decide +kernel
theorem dX1_frameOf_13 : decode cX1_frameOf 13 = .ok (.getfield 19, 3) := by decide +kernel
theorem dX1_frameOf_16 : decode cX1_frameOf 16 = .ok (.getfield 95, 3) := by decide +kernel
theorem dX1_frameOf_19 : decode cX1_frameOf 19 = .ok (.iload_n 1, 1) := by decide +kernel
theorem dX1_frameOf_20 : decode cX1_frameOf 20 = .ok (.iaload, 1) := by decide +kernel
theorem dX1_frameOf_21 : decode cX1_frameOf 21 = .ok (.ireturn, 1) := by decide +kernel
theorem dX1_greatestOf_0 : decode cX1_greatestOf 0 = .ok (.iconst 0, 1) := by decide +kernel
theorem dX1_greatestOf_1 : decode cX1_greatestOf 1 = .ok (.istore_n 2, 1) := by decide +kernel
theorem dX1_greatestOf_2 : decode cX1_greatestOf 2 = .ok (.iconst 0, 1) := by decide +kernel
theorem dX1_greatestOf_3 : decode cX1_greatestOf 3 = .ok (.istore_n 3, 1) := by decide +kernel
theorem dX1_greatestOf_4 : decode cX1_greatestOf 4 = .ok (.iload_n 3, 1) := by decide +kernel
theorem dX1_greatestOf_5 : decode cX1_greatestOf 5 = .ok (.aload_n 0, 1) := by decide +kernel
theorem dX1_greatestOf_6 : decode cX1_greatestOf 6 = .ok (.getfield 19, 3) := by decide +kernel
theorem dX1_greatestOf_9 : decode cX1_greatestOf 9 = .ok (.getfield 78, 3) := by decide +kernel
theorem dX1_greatestOf_12 : decode cX1_greatestOf 12 = .ok (.if_icmp .ge 28, 3) := by decide +kernel
theorem dX1_greatestOf_15 : decode cX1_greatestOf 15 = .ok (.iload_n 1, 1) := by decide +kernel
theorem dX1_greatestOf_16 : decode cX1_greatestOf 16 = .ok (.iload_n 3, 1) := by decide +kernel
theorem dX1_greatestOf_17 : decode cX1_greatestOf 17 = .ok (.invokestatic 44, 3) := by decide +kernel
theorem dX1_greatestOf_20 : decode cX1_greatestOf 20 = .ok (.ifCond .eq 14, 3) := by decide +kernel
theorem dX1_greatestOf_23 : decode cX1_greatestOf 23 = .ok (.iload_n 2, 1) := by decide +kernel
theorem dX1_greatestOf_24 : decode cX1_greatestOf 24 = .ok (.aload_n 0, 1) := by decide +kernel
theorem dX1_greatestOf_25 : decode cX1_greatestOf 25 = .ok (.getfield 15, 3) := by decide +kernel
theorem dX1_greatestOf_28 : decode cX1_greatestOf 28 = .ok (.iload_n 3, 1) := by decide +kernel
theorem dX1_greatestOf_29 : decode cX1_greatestOf 29 = .ok (.iaload, 1) := by decide +kernel
theorem dX1_greatestOf_30 : decode cX1_greatestOf 30 = .ok (.invokestatic 89, 3) := by decide +kernel
theorem dX1_greatestOf_33 : decode cX1_greatestOf 33 = .ok (.istore_n 2, 1) := by decide +kernel
theorem dX1_greatestOf_34 : decode cX1_greatestOf 34 = .ok (.iinc 3 1, 3) := by decide +kernel
theorem dX1_greatestOf_37 : decode cX1_greatestOf 37 = .ok (.goto (-33), 3) := by decide +kernel
theorem dX1_greatestOf_40 : decode cX1_greatestOf 40 = .ok (.iload_n 2, 1) := by decide +kernel
theorem dX1_greatestOf_41 : decode cX1_greatestOf 41 = .ok (.ireturn, 1) := by decide +kernel
theorem dX1_leastThatHas_0 : decode cX1_leastThatHas 0 = .ok (.iconst 0, 1) := by decide +kernel
theorem dX1_leastThatHas_1 : decode cX1_leastThatHas 1 = .ok (.istore_n 3, 1) := by decide +kernel
theorem dX1_leastThatHas_2 : decode cX1_leastThatHas 2 = .ok (.iload_n 3, 1) := by decide +kernel
theorem dX1_leastThatHas_3 : decode cX1_leastThatHas 3 = .ok (.aload_n 0, 1) := by decide +kernel
theorem dX1_leastThatHas_4 : decode cX1_leastThatHas 4 = .ok (.getfield 19, 3) := by decide +kernel
theorem dX1_leastThatHas_7 : decode cX1_leastThatHas 7 = .ok (.getfield 78, 3) := by decide +kernel
theorem dX1_leastThatHas_10 : decode cX1_leastThatHas 10 = .ok (.if_icmp .ge 29, 3) := by decide +kernel
theorem dX1_leastThatHas_13 : decode cX1_leastThatHas 13 = .ok (.iload_n 1, 1) := by decide +kernel
theorem dX1_leastThatHas_14 : decode cX1_leastThatHas 14 = .ok (.iload_n 3, 1) := by decide +kernel
theorem dX1_leastThatHas_15 : decode cX1_leastThatHas 15 = .ok (.invokestatic 44, 3) := by decide +kernel
theorem dX1_leastThatHas_18 : decode cX1_leastThatHas 18 = .ok (.ifCond .eq 15, 3) := by decide +kernel
theorem dX1_leastThatHas_21 : decode cX1_leastThatHas 21 = .ok (.aload_n 0, 1) := by decide +kernel
theorem dX1_leastThatHas_22 : decode cX1_leastThatHas 22 = .ok (.getfield 15, 3) := by decide +kernel
theorem dX1_leastThatHas_25 : decode cX1_leastThatHas 25 = .ok (.iload_n 3, 1) := by decide +kernel
theorem dX1_leastThatHas_26 : decode cX1_leastThatHas 26 = .ok (.iaload, 1) := by decide +kernel
theorem dX1_leastThatHas_27 : decode cX1_leastThatHas 27 = .ok (.iload_n 2, 1) := by decide +kernel
theorem dX1_leastThatHas_28 : decode cX1_leastThatHas 28 = .ok (.if_icmp .ne 5, 3) := by decide +kernel
theorem dX1_leastThatHas_31 : decode cX1_leastThatHas 31 = .ok (.iload_n 3, 1) := by decide +kernel
theorem dX1_leastThatHas_32 : decode cX1_leastThatHas 32 = .ok (.ireturn, 1) := by decide +kernel
theorem dX1_leastThatHas_33 : decode cX1_leastThatHas 33 = .ok (.iinc 3 1, 3) := by decide +kernel
theorem dX1_leastThatHas_36 : decode cX1_leastThatHas 36 = .ok (.goto (-34), 3) := by decide +kernel
theorem dX1_leastThatHas_39 : decode cX1_leastThatHas 39 = .ok (.bipush (-4), 2) := by decide +kernel
theorem dX1_leastThatHas_41 : decode cX1_leastThatHas 41 = .ok (.ireturn, 1) := by decide +kernel
theorem dX1_leastThatTells_0 : decode cX1_leastThatTells 0 = .ok (.iconst 0, 1) := by decide +kernel
theorem dX1_leastThatTells_1 : decode cX1_leastThatTells 1 = .ok (.istore_n 3, 1) := by decide +kernel
theorem dX1_leastThatTells_2 : decode cX1_leastThatTells 2 = .ok (.iload_n 3, 1) := by decide +kernel
theorem dX1_leastThatTells_3 : decode cX1_leastThatTells 3 = .ok (.aload_n 0, 1) := by decide +kernel
theorem dX1_leastThatTells_4 : decode cX1_leastThatTells 4 = .ok (.getfield 19, 3) := by decide +kernel
theorem dX1_leastThatTells_7 : decode cX1_leastThatTells 7 = .ok (.getfield 78, 3) := by decide +kernel
theorem dX1_leastThatTells_10 : decode cX1_leastThatTells 10 = .ok (.if_icmp .ge 28, 3) := by decide +kernel
theorem dX1_leastThatTells_13 : decode cX1_leastThatTells 13 = .ok (.iload_n 1, 1) := by decide +kernel
theorem dX1_leastThatTells_14 : decode cX1_leastThatTells 14 = .ok (.iload_n 3, 1) := by decide +kernel
theorem dX1_leastThatTells_15 : decode cX1_leastThatTells 15 = .ok (.invokestatic 44, 3) := by decide +kernel
theorem dX1_leastThatTells_18 : decode cX1_leastThatTells 18 = .ok (.ifCond .eq 14, 3) := by decide +kernel
theorem dX1_leastThatTells_21 : decode cX1_leastThatTells 21 = .ok (.aload_n 0, 1) := by decide +kernel
theorem dX1_leastThatTells_22 : decode cX1_leastThatTells 22 = .ok (.iload_n 3, 1) := by decide +kernel
theorem dX1_leastThatTells_23 : decode cX1_leastThatTells 23 = .ok (.invokevirtual 59, 3) := by decide +kernel
theorem dX1_leastThatTells_26 : decode cX1_leastThatTells 26 = .ok (.iload_n 2, 1) := by decide +kernel
theorem dX1_leastThatTells_27 : decode cX1_leastThatTells 27 = .ok (.if_icmp .ne 5, 3) := by decide +kernel
theorem dX1_leastThatTells_30 : decode cX1_leastThatTells 30 = .ok (.iload_n 3, 1) := by decide +kernel
theorem dX1_leastThatTells_31 : decode cX1_leastThatTells 31 = .ok (.ireturn, 1) := by decide +kernel
theorem dX1_leastThatTells_32 : decode cX1_leastThatTells 32 = .ok (.iinc 3 1, 3) := by decide +kernel
theorem dX1_leastThatTells_35 : decode cX1_leastThatTells 35 = .ok (.goto (-33), 3) := by decide +kernel
theorem dX1_leastThatTells_38 : decode cX1_leastThatTells 38 = .ok (.bipush (-4), 2) := by decide +kernel
theorem dX1_leastThatTells_40 : decode cX1_leastThatTells 40 = .ok (.ireturn, 1) := by decide +kernel
theorem dX2_init_0 : decode cX2_init 0 = .ok (.aload_n 0, 1) := by decide +kernel
theorem dX2_init_1 : decode cX2_init 1 = .ok (.invokespecial 3, 3) := by decide +kernel
theorem dX2_init_4 : decode cX2_init 4 = .ok (.aload_n 0, 1) := by decide +kernel
theorem dX2_init_5 : decode cX2_init 5 = .ok (.iconst 1, 1) := by decide +kernel
theorem dX2_init_6 : decode cX2_init 6 = .ok (.putfield 9, 3) := by decide +kernel
theorem dX2_init_9 : decode cX2_init 9 = .ok (.aload_n 0, 1) := by decide +kernel
theorem dX2_init_10 : decode cX2_init 10 = .ok (.bipush 20, 2) := by decide +kernel
theorem dX2_init_12 : decode cX2_init 12 = .ok (.newarray .int, 2) := by decide +kernel
theorem dX2_init_14 : decode cX2_init 14 = .ok (.putfield 15, 3) := by decide +kernel
theorem dX2_init_17 : decode cX2_init 17 = .ok (.aload_n 0, 1) := by decide +kernel
theorem dX2_init_18 : decode cX2_init 18 = .ok (.bipush 20, 2) := by decide +kernel
theorem dX2_init_20 : decode cX2_init 20 = .ok (.newarray .int, 2) := by decide +kernel
theorem dX2_init_22 : decode cX2_init 22 = .ok (.putfield 19, 3) := by decide +kernel
theorem dX2_init_25 : decode cX2_init 25 = .ok (.aload_n 0, 1) := by decide +kernel
theorem dX2_init_26 : decode cX2_init 26 = .ok (.bipush 20, 2) := by decide +kernel
theorem dX2_init_28 : decode cX2_init 28 = .ok (.newarray .int, 2) := by decide +kernel
theorem dX2_init_30 : decode cX2_init 30 = .ok (.putfield 22, 3) := by decide +kernel
theorem dX2_init_33 : decode cX2_init 33 = .ok (.aload_n 0, 1) := by decide +kernel
theorem dX2_init_34 : decode cX2_init 34 = .ok (.bipush 20, 2) := by decide +kernel
theorem dX2_init_36 : decode cX2_init 36 = .ok (.newarray .int, 2) := by decide +kernel
theorem dX2_init_38 : decode cX2_init 38 = .ok (.putfield 25, 3) := by decide +kernel
theorem dX2_init_41 : decode cX2_init 41 = .ok (.aload_n 0, 1) := by decide +kernel
theorem dX2_init_42 : decode cX2_init 42 = .ok (.bipush 20, 2) := by decide +kernel
theorem dX2_init_44 : decode cX2_init 44 = .ok (.newarray .int, 2) := by decide +kernel
theorem dX2_init_46 : decode cX2_init 46 = .ok (.putfield 28, 3) := by decide +kernel
theorem dX2_init_49 : decode cX2_init 49 = .ok (.aload_n 0, 1) := by decide +kernel
theorem dX2_init_50 : decode cX2_init 50 = .ok (.aload_n 1, 1) := by decide +kernel
theorem dX2_init_51 : decode cX2_init 51 = .ok (.putfield 31, 3) := by decide +kernel
theorem dX2_init_54 : decode cX2_init 54 = .ok (.aload_n 0, 1) := by decide +kernel
theorem dX2_init_55 : decode cX2_init 55 = .ok (.aload_n 2, 1) := by decide +kernel
theorem dX2_init_56 : decode cX2_init 56 = .ok (.putfield 35, 3) := by decide +kernel
theorem dX2_init_59 : decode cX2_init 59 = .ok (.aload_n 0, 1) := by decide +kernel
theorem dX2_init_60 : decode cX2_init 60 = .ok (.aload_n 3, 1) := by decide +kernel
theorem dX2_init_61 : decode cX2_init 61 = .ok (.putfield 39, 3) := by decide +kernel
theorem dX2_init_64 : decode cX2_init 64 = .ok (.return_, 1) := by decide +kernel
theorem dX2_outdate_0 : decode cX2_outdate 0 = .ok (.aload_n 0, 1) := by decide +kernel
theorem dX2_outdate_1 : decode cX2_outdate 1 = .ok (.iconst 1, 1) := by decide +kernel
theorem dX2_outdate_2 : decode cX2_outdate 2 = .ok (.putfield 9, 3) := by decide +kernel
theorem dX2_outdate_5 : decode cX2_outdate 5 = .ok (.return_, 1) := by decide +kernel
theorem dX2_refresh_0 : decode cX2_refresh 0 = .ok (.aload_n 0, 1) := by decide +kernel
theorem dX2_refresh_1 : decode cX2_refresh 1 = .ok (.getfield 9, 3) := by decide +kernel
theorem dX2_refresh_4 : decode cX2_refresh 4 = .ok (.ifCond .ne 4, 3) := by decide +kernel
theorem dX2_refresh_7 : decode cX2_refresh 7 = .ok (.return_, 1) := by decide +kernel
theorem dX2_refresh_8 : decode cX2_refresh 8 = .ok (.aload_n 0, 1) := by decide +kernel
theorem dX2_refresh_9 : decode cX2_refresh 9 = .ok (.iconst 0, 1) := by decide +kernel
theorem dX2_refresh_10 : decode cX2_refresh 10 = .ok (.putfield 9, 3) := by decide +kernel
theorem dX2_refresh_13 : decode cX2_refresh 13 = .ok (.aload_n 0, 1) := by decide +kernel
theorem dX2_refresh_14 : decode cX2_refresh 14 = .ok (.invokevirtual 43, 3) := by decide +kernel
theorem dX2_refresh_17 : decode cX2_refresh 17 = .ok (.aload_n 0, 1) := by decide +kernel
theorem dX2_refresh_18 : decode cX2_refresh 18 = .ok (.invokevirtual 46, 3) := by decide +kernel
theorem dX2_refresh_21 : decode cX2_refresh 21 = .ok (.aload_n 0, 1) := by decide +kernel
theorem dX2_refresh_22 : decode cX2_refresh 22 = .ok (.invokevirtual 49, 3) := by decide +kernel
theorem dX2_refresh_25 : decode cX2_refresh 25 = .ok (.aload_n 0, 1) := by decide +kernel
theorem dX2_refresh_26 : decode cX2_refresh 26 = .ok (.invokevirtual 52, 3) := by decide +kernel
theorem dX2_refresh_29 : decode cX2_refresh 29 = .ok (.aload_n 0, 1) := by decide +kernel
theorem dX2_refresh_30 : decode cX2_refresh 30 = .ok (.invokevirtual 55, 3) := by decide +kernel
theorem dX2_refresh_33 : decode cX2_refresh 33 = .ok (.return_, 1) := by decide +kernel
theorem dX2_selfAndReached_0 : decode cX2_selfAndReached 0 = .ok (.aload_n 0, 1) := by decide +kernel
theorem dX2_selfAndReached_1 : decode cX2_selfAndReached 1 = .ok (.getfield 22, 3) := by decide +kernel
theorem dX2_selfAndReached_4 : decode cX2_selfAndReached 4 = .ok (.iload_n 1, 1) := by decide +kernel
theorem dX2_selfAndReached_5 : decode cX2_selfAndReached 5 = .ok (.iaload, 1) := by decide +kernel
theorem dX2_selfAndReached_6 : decode cX2_selfAndReached 6 = .ok (.iconst 1, 1) := by decide +kernel
theorem dX2_selfAndReached_7 : decode cX2_selfAndReached 7 = .ok (.iload_n 1, 1) := by decide +kernel
theorem dX2_selfAndReached_8 : decode cX2_selfAndReached 8 = .ok (.ishl, 1) := by decide +kernel
theorem dX2_selfAndReached_9 : decode cX2_selfAndReached 9 = .ok (.ior, 1) := by decide +kernel
theorem dX2_selfAndReached_10 : decode cX2_selfAndReached 10 = .ok (.ireturn, 1) := by decide +kernel
theorem dX2_howManyReach_0 : decode cX2_howManyReach 0 = .ok (.iconst 0, 1) := by decide +kernel
theorem dX2_howManyReach_1 : decode cX2_howManyReach 1 = .ok (.istore_n 2, 1) := by decide +kernel
theorem dX2_howManyReach_2 : decode cX2_howManyReach 2 = .ok (.iconst 0, 1) := by decide +kernel
theorem dX2_howManyReach_3 : decode cX2_howManyReach 3 = .ok (.istore_n 3, 1) := by decide +kernel
theorem dX2_howManyReach_4 : decode cX2_howManyReach 4 = .ok (.iload_n 3, 1) := by decide +kernel
theorem dX2_howManyReach_5 : decode cX2_howManyReach 5 = .ok (.aload_n 0, 1) := by decide +kernel
theorem dX2_howManyReach_6 : decode cX2_howManyReach 6 = .ok (.getfield 31, 3) := by decide +kernel
theorem dX2_howManyReach_9 : decode cX2_howManyReach 9 = .ok (.getfield 58, 3) := by decide +kernel
theorem dX2_howManyReach_12 : decode cX2_howManyReach 12 = .ok (.if_icmp .ge 25, 3) := by decide +kernel
theorem dX2_howManyReach_15 : decode cX2_howManyReach 15 = .ok (.aload_n 0, 1) := by decide +kernel
theorem dX2_howManyReach_16 : decode cX2_howManyReach 16 = .ok (.getfield 22, 3) := by decide +kernel
theorem dX2_howManyReach_19 : decode cX2_howManyReach 19 = .ok (.iload_n 3, 1) := by decide +kernel
theorem dX2_howManyReach_20 : decode cX2_howManyReach 20 = .ok (.iaload, 1) := by decide +kernel
theorem dX2_howManyReach_21 : decode cX2_howManyReach 21 = .ok (.iload_n 1, 1) := by decide +kernel
theorem dX2_howManyReach_22 : decode cX2_howManyReach 22 = .ok (.invokestatic 64, 3) := by decide +kernel
theorem dX2_howManyReach_25 : decode cX2_howManyReach 25 = .ok (.ifCond .eq 6, 3) := by decide +kernel
theorem dX2_howManyReach_28 : decode cX2_howManyReach 28 = .ok (.iinc 2 1, 3) := by decide +kernel
theorem dX2_howManyReach_31 : decode cX2_howManyReach 31 = .ok (.iinc 3 1, 3) := by decide +kernel
theorem dX2_howManyReach_34 : decode cX2_howManyReach 34 = .ok (.goto (-30), 3) := by decide +kernel
theorem dX2_howManyReach_37 : decode cX2_howManyReach 37 = .ok (.iload_n 2, 1) := by decide +kernel
theorem dX2_howManyReach_38 : decode cX2_howManyReach 38 = .ok (.ireturn, 1) := by decide +kernel
theorem dX2_howManyRings_0 : decode cX2_howManyRings 0 = .ok (.iconst 0, 1) := by decide +kernel
theorem dX2_howManyRings_1 : decode cX2_howManyRings 1 = .ok (.istore_n 1, 1) := by decide +kernel
theorem dX2_howManyRings_2 : decode cX2_howManyRings 2 = .ok (.iconst 0, 1) := by decide +kernel
theorem dX2_howManyRings_3 : decode cX2_howManyRings 3 = .ok (.istore_n 2, 1) := by decide +kernel
theorem dX2_howManyRings_4 : decode cX2_howManyRings 4 = .ok (.iload_n 2, 1) := by decide +kernel
theorem dX2_howManyRings_5 : decode cX2_howManyRings 5 = .ok (.aload_n 0, 1) := by decide +kernel
theorem dX2_howManyRings_6 : decode cX2_howManyRings 6 = .ok (.getfield 68, 3) := by decide +kernel
theorem dX2_howManyRings_9 : decode cX2_howManyRings 9 = .ok (.if_icmp .ge 28, 3) := by decide +kernel
theorem dX2_howManyRings_12 : decode cX2_howManyRings 12 = .ok (.aload_n 0, 1) := by decide +kernel
theorem dX2_howManyRings_13 : decode cX2_howManyRings 13 = .ok (.getfield 71, 3) := by decide +kernel
theorem dX2_howManyRings_16 : decode cX2_howManyRings 16 = .ok (.aload_n 0, 1) := by decide +kernel
theorem dX2_howManyRings_17 : decode cX2_howManyRings 17 = .ok (.getfield 28, 3) := by decide +kernel
theorem dX2_howManyRings_20 : decode cX2_howManyRings 20 = .ok (.iload_n 2, 1) := by decide +kernel
theorem dX2_howManyRings_21 : decode cX2_howManyRings 21 = .ok (.iaload, 1) := by decide +kernel
theorem dX2_howManyRings_22 : decode cX2_howManyRings 22 = .ok (.invokestatic 64, 3) := by decide +kernel
theorem dX2_howManyRings_25 : decode cX2_howManyRings 25 = .ok (.ifCond .eq 6, 3) := by decide +kernel
theorem dX2_howManyRings_28 : decode cX2_howManyRings 28 = .ok (.iinc 1 1, 3) := by decide +kernel
theorem dX2_howManyRings_31 : decode cX2_howManyRings 31 = .ok (.iinc 2 1, 3) := by decide +kernel
theorem dX2_howManyRings_34 : decode cX2_howManyRings 34 = .ok (.goto (-30), 3) := by decide +kernel
theorem dX2_howManyRings_37 : decode cX2_howManyRings 37 = .ok (.iload_n 1, 1) := by decide +kernel
theorem dX2_howManyRings_38 : decode cX2_howManyRings 38 = .ok (.ireturn, 1) := by decide +kernel
theorem dX2_drawCalls_0 : decode cX2_drawCalls 0 = .ok (.aload_n 0, 1) := by decide +kernel
theorem dX2_drawCalls_1 : decode cX2_drawCalls 1 = .ok (.getfield 35, 3) := by decide +kernel
theorem dX2_drawCalls_4 : decode cX2_drawCalls 4 = .ok (.getfield 74, 3) := by decide +kernel
theorem dX2_drawCalls_7 : decode cX2_drawCalls 7 = .ok (.astore_n 1, 1) := by decide +kernel
theorem dX2_drawCalls_8 : decode cX2_drawCalls 8 = .ok (.aload_n 0, 1) := by decide +kernel
theorem dX2_drawCalls_9 : decode cX2_drawCalls 9 = .ok (.getfield 39, 3) := by decide +kernel
theorem dX2_drawCalls_12 : decode cX2_drawCalls 12 = .ok (.getfield 79, 3) := by decide +kernel
theorem dX2_drawCalls_15 : decode cX2_drawCalls 15 = .ok (.astore_n 2, 1) := by decide +kernel
theorem dX2_drawCalls_16 : decode cX2_drawCalls 16 = .ok (.iconst 0, 1) := by decide +kernel
theorem dX2_drawCalls_17 : decode cX2_drawCalls 17 = .ok (.istore_n 3, 1) := by decide +kernel
theorem dX2_drawCalls_18 : decode cX2_drawCalls 18 = .ok (.iload_n 3, 1) := by decide +kernel
theorem dX2_drawCalls_19 : decode cX2_drawCalls 19 = .ok (.aload_n 0, 1) := by decide +kernel
theorem dX2_drawCalls_20 : decode cX2_drawCalls 20 = .ok (.getfield 31, 3) := by decide +kernel
theorem dX2_drawCalls_23 : decode cX2_drawCalls 23 = .ok (.getfield 58, 3) := by decide +kernel
theorem dX2_drawCalls_26 : decode cX2_drawCalls 26 = .ok (.if_icmp .ge 70, 3) := by decide +kernel
theorem dX2_drawCalls_29 : decode cX2_drawCalls 29 = .ok (.aload_n 0, 1) := by decide +kernel
theorem dX2_drawCalls_30 : decode cX2_drawCalls 30 = .ok (.getfield 15, 3) := by decide +kernel
theorem dX2_drawCalls_33 : decode cX2_drawCalls 33 = .ok (.iload_n 3, 1) := by decide +kernel
theorem dX2_drawCalls_34 : decode cX2_drawCalls 34 = .ok (.aload_n 2, 1) := by decide +kernel
theorem dX2_drawCalls_35 : decode cX2_drawCalls 35 = .ok (.iconst 0, 1) := by decide +kernel
theorem dX2_drawCalls_36 : decode cX2_drawCalls 36 = .ok (.aaload, 1) := by decide +kernel
theorem dX2_drawCalls_37 : decode cX2_drawCalls 37 = .ok (.iload_n 3, 1) := by decide +kernel
theorem dX2_drawCalls_38 : decode cX2_drawCalls 38 = .ok (.iaload, 1) := by decide +kernel
theorem dX2_drawCalls_39 : decode cX2_drawCalls 39 = .ok (.aload_n 1, 1) := by decide +kernel
theorem dX2_drawCalls_40 : decode cX2_drawCalls 40 = .ok (.aload_n 2, 1) := by decide +kernel
theorem dX2_drawCalls_41 : decode cX2_drawCalls 41 = .ok (.iconst 2, 1) := by decide +kernel
theorem dX2_drawCalls_42 : decode cX2_drawCalls 42 = .ok (.aaload, 1) := by decide +kernel
theorem dX2_drawCalls_43 : decode cX2_drawCalls 43 = .ok (.iload_n 3, 1) := by decide +kernel
theorem dX2_drawCalls_44 : decode cX2_drawCalls 44 = .ok (.iaload, 1) := by decide +kernel
theorem dX2_drawCalls_45 : decode cX2_drawCalls 45 = .ok (.invokestatic 85, 3) := by decide +kernel
theorem dX2_drawCalls_48 : decode cX2_drawCalls 48 = .ok (.ior, 1) := by decide +kernel
theorem dX2_drawCalls_49 : decode cX2_drawCalls 49 = .ok (.iastore, 1) := by decide +kernel
theorem dX2_drawCalls_50 : decode cX2_drawCalls 50 = .ok (.aload_n 0, 1) := by decide +kernel
theorem dX2_drawCalls_51 : decode cX2_drawCalls 51 = .ok (.getfield 19, 3) := by decide +kernel
theorem dX2_drawCalls_54 : decode cX2_drawCalls 54 = .ok (.iload_n 3, 1) := by decide +kernel
theorem dX2_drawCalls_55 : decode cX2_drawCalls 55 = .ok (.aload_n 2, 1) := by decide +kernel
theorem dX2_drawCalls_56 : decode cX2_drawCalls 56 = .ok (.iconst 1, 1) := by decide +kernel
theorem dX2_drawCalls_57 : decode cX2_drawCalls 57 = .ok (.aaload, 1) := by decide +kernel
theorem dX2_drawCalls_58 : decode cX2_drawCalls 58 = .ok (.iload_n 3, 1) := by decide +kernel
theorem dX2_drawCalls_59 : decode cX2_drawCalls 59 = .ok (.iaload, 1) := by decide +kernel
theorem dX2_drawCalls_60 : decode cX2_drawCalls 60 = .ok (.aload_n 1, 1) := by decide +kernel
theorem dX2_drawCalls_61 : decode cX2_drawCalls 61 = .ok (.aload_n 2, 1) := by decide +kernel
theorem dX2_drawCalls_62 : decode cX2_drawCalls 62 = .ok (.iconst 3, 1) := by decide +kernel
theorem dX2_drawCalls_63 : decode cX2_drawCalls 63 = .ok (.aaload, 1) := by decide +kernel
theorem dX2_drawCalls_64 : decode cX2_drawCalls 64 = .ok (.iload_n 3, 1) := by decide +kernel
theorem dX2_drawCalls_65 : decode cX2_drawCalls 65 = .ok (.iaload, 1) := by decide +kernel
theorem dX2_drawCalls_66 : decode cX2_drawCalls 66 = .ok (.invokestatic 85, 3) := by decide +kernel
theorem dX2_drawCalls_69 : decode cX2_drawCalls 69 = .ok (.ior, 1) := by decide +kernel
theorem dX2_drawCalls_70 : decode cX2_drawCalls 70 = .ok (.iastore, 1) := by decide +kernel
theorem dX2_drawCalls_71 : decode cX2_drawCalls 71 = .ok (.aload_n 0, 1) := by decide +kernel
theorem dX2_drawCalls_72 : decode cX2_drawCalls 72 = .ok (.getfield 22, 3) := by decide +kernel
theorem dX2_drawCalls_75 : decode cX2_drawCalls 75 = .ok (.iload_n 3, 1) := by decide +kernel
theorem dX2_drawCalls_76 : decode cX2_drawCalls 76 = .ok (.aload_n 0, 1) := by decide +kernel
theorem dX2_drawCalls_77 : decode cX2_drawCalls 77 = .ok (.getfield 15, 3) := by decide +kernel
theorem dX2_drawCalls_80 : decode cX2_drawCalls 80 = .ok (.iload_n 3, 1) := by decide +kernel
theorem dX2_drawCalls_81 : decode cX2_drawCalls 81 = .ok (.iaload, 1) := by decide +kernel
theorem dX2_drawCalls_82 : decode cX2_drawCalls 82 = .ok (.aload_n 0, 1) := by decide +kernel
theorem dX2_drawCalls_83 : decode cX2_drawCalls 83 = .ok (.getfield 19, 3) := by decide +kernel
theorem dX2_drawCalls_86 : decode cX2_drawCalls 86 = .ok (.iload_n 3, 1) := by decide +kernel
theorem dX2_drawCalls_87 : decode cX2_drawCalls 87 = .ok (.iaload, 1) := by decide +kernel
theorem dX2_drawCalls_88 : decode cX2_drawCalls 88 = .ok (.ior, 1) := by decide +kernel
theorem dX2_drawCalls_89 : decode cX2_drawCalls 89 = .ok (.iastore, 1) := by decide +kernel
theorem dX2_drawCalls_90 : decode cX2_drawCalls 90 = .ok (.iinc 3 1, 3) := by decide +kernel
theorem dX2_drawCalls_93 : decode cX2_drawCalls 93 = .ok (.goto (-75), 3) := by decide +kernel
theorem dX2_drawCalls_96 : decode cX2_drawCalls 96 = .ok (.return_, 1) := by decide +kernel
theorem dX2_closeReach_0 : decode cX2_closeReach 0 = .ok (.iconst 0, 1) := by decide +kernel
theorem dX2_closeReach_1 : decode cX2_closeReach 1 = .ok (.istore_n 1, 1) := by decide +kernel
theorem dX2_closeReach_2 : decode cX2_closeReach 2 = .ok (.iload_n 1, 1) := by decide +kernel
theorem dX2_closeReach_3 : decode cX2_closeReach 3 = .ok (.aload_n 0, 1) := by decide +kernel
theorem dX2_closeReach_4 : decode cX2_closeReach 4 = .ok (.getfield 31, 3) := by decide +kernel
theorem dX2_closeReach_7 : decode cX2_closeReach 7 = .ok (.getfield 58, 3) := by decide +kernel
theorem dX2_closeReach_10 : decode cX2_closeReach 10 = .ok (.if_icmp .ge 56, 3) := by decide +kernel
theorem dX2_closeReach_13 : decode cX2_closeReach 13 = .ok (.iconst 0, 1) := by decide +kernel
theorem dX2_closeReach_14 : decode cX2_closeReach 14 = .ok (.istore_n 2, 1) := by decide +kernel
theorem dX2_closeReach_15 : decode cX2_closeReach 15 = .ok (.iload_n 2, 1) := by decide +kernel
theorem dX2_closeReach_16 : decode cX2_closeReach 16 = .ok (.aload_n 0, 1) := by decide +kernel
theorem dX2_closeReach_17 : decode cX2_closeReach 17 = .ok (.getfield 31, 3) := by decide +kernel
theorem dX2_closeReach_20 : decode cX2_closeReach 20 = .ok (.getfield 58, 3) := by decide +kernel
theorem dX2_closeReach_23 : decode cX2_closeReach 23 = .ok (.if_icmp .ge 37, 3) := by decide +kernel
theorem dX2_closeReach_26 : decode cX2_closeReach 26 = .ok (.aload_n 0, 1) := by decide +kernel
theorem dX2_closeReach_27 : decode cX2_closeReach 27 = .ok (.getfield 22, 3) := by decide +kernel
theorem dX2_closeReach_30 : decode cX2_closeReach 30 = .ok (.iload_n 2, 1) := by decide +kernel
theorem dX2_closeReach_31 : decode cX2_closeReach 31 = .ok (.iaload, 1) := by decide +kernel
theorem dX2_closeReach_32 : decode cX2_closeReach 32 = .ok (.iload_n 1, 1) := by decide +kernel
theorem dX2_closeReach_33 : decode cX2_closeReach 33 = .ok (.invokestatic 64, 3) := by decide +kernel
theorem dX2_closeReach_36 : decode cX2_closeReach 36 = .ok (.ifCond .eq 18, 3) := by decide +kernel
theorem dX2_closeReach_39 : decode cX2_closeReach 39 = .ok (.aload_n 0, 1) := by decide +kernel
theorem dX2_closeReach_40 : decode cX2_closeReach 40 = .ok (.getfield 22, 3) := by decide +kernel
theorem dX2_closeReach_43 : decode cX2_closeReach 43 = .ok (.iload_n 2, 1) := by decide +kernel
theorem dX2_closeReach_44 : decode cX2_closeReach 44 = .ok (.dup2, 1) := by decide +kernel
theorem dX2_closeReach_45 : decode cX2_closeReach 45 = .ok (.iaload, 1) := by decide +kernel
theorem dX2_closeReach_46 : decode cX2_closeReach 46 = .ok (.aload_n 0, 1) := by decide +kernel
theorem dX2_closeReach_47 : decode cX2_closeReach 47 = .ok (.getfield 22, 3) := by decide +kernel
theorem dX2_closeReach_50 : decode cX2_closeReach 50 = .ok (.iload_n 1, 1) := by decide +kernel
theorem dX2_closeReach_51 : decode cX2_closeReach 51 = .ok (.iaload, 1) := by decide +kernel
theorem dX2_closeReach_52 : decode cX2_closeReach 52 = .ok (.ior, 1) := by decide +kernel
theorem dX2_closeReach_53 : decode cX2_closeReach 53 = .ok (.iastore, 1) := by decide +kernel
theorem dX2_closeReach_54 : decode cX2_closeReach 54 = .ok (.iinc 2 1, 3) := by decide +kernel
theorem dX2_closeReach_57 : decode cX2_closeReach 57 = .ok (.goto (-42), 3) := by decide +kernel
theorem dX2_closeReach_60 : decode cX2_closeReach 60 = .ok (.iinc 1 1, 3) := by decide +kernel
theorem dX2_closeReach_63 : decode cX2_closeReach 63 = .ok (.goto (-61), 3) := by decide +kernel
theorem dX2_closeReach_66 : decode cX2_closeReach 66 = .ok (.return_, 1) := by decide +kernel
theorem dX2_gatherTogether_0 : decode cX2_gatherTogether 0 = .ok (.iconst 0, 1) := by decide +kernel
theorem dX2_gatherTogether_1 : decode cX2_gatherTogether 1 = .ok (.istore_n 1, 1) := by decide +kernel
theorem dX2_gatherTogether_2 : decode cX2_gatherTogether 2 = .ok (.iload_n 1, 1) := by decide +kernel
theorem dX2_gatherTogether_3 : decode cX2_gatherTogether 3 = .ok (.aload_n 0, 1) := by decide +kernel
theorem dX2_gatherTogether_4 : decode cX2_gatherTogether 4 = .ok (.getfield 31, 3) := by decide +kernel
theorem dX2_gatherTogether_7 : decode cX2_gatherTogether 7 = .ok (.getfield 58, 3) := by decide +kernel
theorem dX2_gatherTogether_10 : decode cX2_gatherTogether 10 = .ok (.if_icmp .ge 75, 3) := by decide +kernel
theorem dX2_gatherTogether_13 : decode cX2_gatherTogether 13 = .ok (.aload_n 0, 1) := by decide +kernel
theorem dX2_gatherTogether_14 : decode cX2_gatherTogether 14 = .ok (.getfield 25, 3) := by decide +kernel
theorem dX2_gatherTogether_17 : decode cX2_gatherTogether 17 = .ok (.iload_n 1, 1) := by decide +kernel
theorem dX2_gatherTogether_18 : decode cX2_gatherTogether 18 = .ok (.iconst 1, 1) := by decide +kernel
theorem dX2_gatherTogether_19 : decode cX2_gatherTogether 19 = .ok (.iload_n 1, 1) := by decide +kernel
theorem dX2_gatherTogether_20 : decode cX2_gatherTogether 20 = .ok (.ishl, 1) := by decide +kernel
theorem dX2_gatherTogether_21 : decode cX2_gatherTogether 21 = .ok (.iastore, 1) := by decide +kernel
theorem dX2_gatherTogether_22 : decode cX2_gatherTogether 22 = .ok (.iconst 0, 1) := by decide +kernel
theorem dX2_gatherTogether_23 : decode cX2_gatherTogether 23 = .ok (.istore_n 2, 1) := by decide +kernel
theorem dX2_gatherTogether_24 : decode cX2_gatherTogether 24 = .ok (.iload_n 2, 1) := by decide +kernel
theorem dX2_gatherTogether_25 : decode cX2_gatherTogether 25 = .ok (.aload_n 0, 1) := by decide +kernel
theorem dX2_gatherTogether_26 : decode cX2_gatherTogether 26 = .ok (.getfield 31, 3) := by decide +kernel
theorem dX2_gatherTogether_29 : decode cX2_gatherTogether 29 = .ok (.getfield 58, 3) := by decide +kernel
theorem dX2_gatherTogether_32 : decode cX2_gatherTogether 32 = .ok (.if_icmp .ge 47, 3) := by decide +kernel
theorem dX2_gatherTogether_35 : decode cX2_gatherTogether 35 = .ok (.aload_n 0, 1) := by decide +kernel
theorem dX2_gatherTogether_36 : decode cX2_gatherTogether 36 = .ok (.getfield 22, 3) := by decide +kernel
theorem dX2_gatherTogether_39 : decode cX2_gatherTogether 39 = .ok (.iload_n 1, 1) := by decide +kernel
theorem dX2_gatherTogether_40 : decode cX2_gatherTogether 40 = .ok (.iaload, 1) := by decide +kernel
theorem dX2_gatherTogether_41 : decode cX2_gatherTogether 41 = .ok (.iload_n 2, 1) := by decide +kernel
theorem dX2_gatherTogether_42 : decode cX2_gatherTogether 42 = .ok (.invokestatic 64, 3) := by decide +kernel
theorem dX2_gatherTogether_45 : decode cX2_gatherTogether 45 = .ok (.ifCond .eq 28, 3) := by decide +kernel
theorem dX2_gatherTogether_48 : decode cX2_gatherTogether 48 = .ok (.aload_n 0, 1) := by decide +kernel
theorem dX2_gatherTogether_49 : decode cX2_gatherTogether 49 = .ok (.getfield 22, 3) := by decide +kernel
theorem dX2_gatherTogether_52 : decode cX2_gatherTogether 52 = .ok (.iload_n 2, 1) := by decide +kernel
theorem dX2_gatherTogether_53 : decode cX2_gatherTogether 53 = .ok (.iaload, 1) := by decide +kernel
theorem dX2_gatherTogether_54 : decode cX2_gatherTogether 54 = .ok (.iload_n 1, 1) := by decide +kernel
theorem dX2_gatherTogether_55 : decode cX2_gatherTogether 55 = .ok (.invokestatic 64, 3) := by decide +kernel
theorem dX2_gatherTogether_58 : decode cX2_gatherTogether 58 = .ok (.ifCond .eq 15, 3) := by decide +kernel
theorem dX2_gatherTogether_61 : decode cX2_gatherTogether 61 = .ok (.aload_n 0, 1) := by decide +kernel
theorem dX2_gatherTogether_62 : decode cX2_gatherTogether 62 = .ok (.getfield 25, 3) := by decide +kernel
theorem dX2_gatherTogether_65 : decode cX2_gatherTogether 65 = .ok (.iload_n 1, 1) := by decide +kernel
theorem dX2_gatherTogether_66 : decode cX2_gatherTogether 66 = .ok (.dup2, 1) := by decide +kernel
theorem dX2_gatherTogether_67 : decode cX2_gatherTogether 67 = .ok (.iaload, 1) := by decide +kernel
theorem dX2_gatherTogether_68 : decode cX2_gatherTogether 68 = .ok (.iconst 1, 1) := by decide +kernel
theorem dX2_gatherTogether_69 : decode cX2_gatherTogether 69 = .ok (.iload_n 2, 1) := by decide +kernel
theorem dX2_gatherTogether_70 : decode cX2_gatherTogether 70 = .ok (.ishl, 1) := by decide +kernel
theorem dX2_gatherTogether_71 : decode cX2_gatherTogether 71 = .ok (.ior, 1) := by decide +kernel
theorem dX2_gatherTogether_72 : decode cX2_gatherTogether 72 = .ok (.iastore, 1) := by decide +kernel
theorem dX2_gatherTogether_73 : decode cX2_gatherTogether 73 = .ok (.iinc 2 1, 3) := by decide +kernel
theorem dX2_gatherTogether_76 : decode cX2_gatherTogether 76 = .ok (.goto (-52), 3) := by decide +kernel
theorem dX2_gatherTogether_79 : decode cX2_gatherTogether 79 = .ok (.iinc 1 1, 3) := by decide +kernel
theorem dX2_gatherTogether_82 : decode cX2_gatherTogether 82 = .ok (.goto (-80), 3) := by decide +kernel
theorem dX2_gatherTogether_85 : decode cX2_gatherTogether 85 = .ok (.return_, 1) := by decide +kernel
theorem dX2_markRings_0 : decode cX2_markRings 0 = .ok (.aload_n 0, 1) := by decide +kernel
theorem dX2_markRings_1 : decode cX2_markRings 1 = .ok (.iconst 0, 1) := by decide +kernel
theorem dX2_markRings_2 : decode cX2_markRings 2 = .ok (.putfield 71, 3) := by decide +kernel
theorem dX2_markRings_5 : decode cX2_markRings 5 = .ok (.iconst 0, 1) := by decide +kernel
theorem dX2_markRings_6 : decode cX2_markRings 6 = .ok (.istore_n 1, 1) := by decide +kernel
theorem dX2_markRings_7 : decode cX2_markRings 7 = .ok (.iload_n 1, 1) := by decide +kernel
theorem dX2_markRings_8 : decode cX2_markRings 8 = .ok (.aload_n 0, 1) := by decide +kernel
theorem dX2_markRings_9 : decode cX2_markRings 9 = .ok (.getfield 31, 3) := by decide +kernel
theorem dX2_markRings_12 : decode cX2_markRings 12 = .ok (.getfield 58, 3) := by decide +kernel
theorem dX2_markRings_15 : decode cX2_markRings 15 = .ok (.if_icmp .ge 40, 3) := by decide +kernel
theorem dX2_markRings_18 : decode cX2_markRings 18 = .ok (.aload_n 0, 1) := by decide +kernel
theorem dX2_markRings_19 : decode cX2_markRings 19 = .ok (.getfield 15, 3) := by decide +kernel
theorem dX2_markRings_22 : decode cX2_markRings 22 = .ok (.iload_n 1, 1) := by decide +kernel
theorem dX2_markRings_23 : decode cX2_markRings 23 = .ok (.iaload, 1) := by decide +kernel
theorem dX2_markRings_24 : decode cX2_markRings 24 = .ok (.aload_n 0, 1) := by decide +kernel
theorem dX2_markRings_25 : decode cX2_markRings 25 = .ok (.getfield 25, 3) := by decide +kernel
theorem dX2_markRings_28 : decode cX2_markRings 28 = .ok (.iload_n 1, 1) := by decide +kernel
theorem dX2_markRings_29 : decode cX2_markRings 29 = .ok (.iaload, 1) := by decide +kernel
theorem dX2_markRings_30 : decode cX2_markRings 30 = .ok (.iand, 1) := by decide +kernel
theorem dX2_markRings_31 : decode cX2_markRings 31 = .ok (.ifCond .eq 18, 3) := by decide +kernel
theorem dX2_markRings_34 : decode cX2_markRings 34 = .ok (.aload_n 0, 1) := by decide +kernel
theorem dX2_markRings_35 : decode cX2_markRings 35 = .ok (.dup, 1) := by decide +kernel
theorem dX2_markRings_36 : decode cX2_markRings 36 = .ok (.getfield 71, 3) := by decide +kernel
theorem dX2_markRings_39 : decode cX2_markRings 39 = .ok (.aload_n 0, 1) := by decide +kernel
theorem dX2_markRings_40 : decode cX2_markRings 40 = .ok (.getfield 25, 3) := by decide +kernel
theorem dX2_markRings_43 : decode cX2_markRings 43 = .ok (.iload_n 1, 1) := by decide +kernel
theorem dX2_markRings_44 : decode cX2_markRings 44 = .ok (.iaload, 1) := by decide +kernel
theorem dX2_markRings_45 : decode cX2_markRings 45 = .ok (.ior, 1) := by decide +kernel
theorem dX2_markRings_46 : decode cX2_markRings 46 = .ok (.putfield 71, 3) := by decide +kernel
theorem dX2_markRings_49 : decode cX2_markRings 49 = .ok (.iinc 1 1, 3) := by decide +kernel
theorem dX2_markRings_52 : decode cX2_markRings 52 = .ok (.goto (-45), 3) := by decide +kernel
theorem dX2_markRings_55 : decode cX2_markRings 55 = .ok (.return_, 1) := by decide +kernel
theorem dX2_orderLeaders_0 : decode cX2_orderLeaders 0 = .ok (.aload_n 0, 1) := by decide +kernel
theorem dX2_orderLeaders_1 : decode cX2_orderLeaders 1 = .ok (.iconst 0, 1) := by decide +kernel
theorem dX2_orderLeaders_2 : decode cX2_orderLeaders 2 = .ok (.putfield 68, 3) := by decide +kernel
theorem dX2_orderLeaders_5 : decode cX2_orderLeaders 5 = .ok (.iconst 1, 1) := by decide +kernel
theorem dX2_orderLeaders_6 : decode cX2_orderLeaders 6 = .ok (.istore_n 1, 1) := by decide +kernel
theorem dX2_orderLeaders_7 : decode cX2_orderLeaders 7 = .ok (.iload_n 1, 1) := by decide +kernel
theorem dX2_orderLeaders_8 : decode cX2_orderLeaders 8 = .ok (.aload_n 0, 1) := by decide +kernel
theorem dX2_orderLeaders_9 : decode cX2_orderLeaders 9 = .ok (.getfield 31, 3) := by decide +kernel
theorem dX2_orderLeaders_12 : decode cX2_orderLeaders 12 = .ok (.getfield 58, 3) := by decide +kernel
theorem dX2_orderLeaders_15 : decode cX2_orderLeaders 15 = .ok (.if_icmp .gt 73, 3) := by decide +kernel
theorem dX2_orderLeaders_18 : decode cX2_orderLeaders 18 = .ok (.iconst 0, 1) := by decide +kernel
theorem dX2_orderLeaders_19 : decode cX2_orderLeaders 19 = .ok (.istore_n 2, 1) := by decide +kernel
theorem dX2_orderLeaders_20 : decode cX2_orderLeaders 20 = .ok (.iload_n 2, 1) := by decide +kernel
theorem dX2_orderLeaders_21 : decode cX2_orderLeaders 21 = .ok (.aload_n 0, 1) := by decide +kernel
theorem dX2_orderLeaders_22 : decode cX2_orderLeaders 22 = .ok (.getfield 31, 3) := by decide +kernel
theorem dX2_orderLeaders_25 : decode cX2_orderLeaders 25 = .ok (.getfield 58, 3) := by decide +kernel
theorem dX2_orderLeaders_28 : decode cX2_orderLeaders 28 = .ok (.if_icmp .ge 54, 3) := by decide +kernel
theorem dX2_orderLeaders_31 : decode cX2_orderLeaders 31 = .ok (.aload_n 0, 1) := by decide +kernel
theorem dX2_orderLeaders_32 : decode cX2_orderLeaders 32 = .ok (.getfield 25, 3) := by decide +kernel
theorem dX2_orderLeaders_35 : decode cX2_orderLeaders 35 = .ok (.iload_n 2, 1) := by decide +kernel
theorem dX2_orderLeaders_36 : decode cX2_orderLeaders 36 = .ok (.iaload, 1) := by decide +kernel
theorem dX2_orderLeaders_37 : decode cX2_orderLeaders 37 = .ok (.invokestatic 89, 3) := by decide +kernel
theorem dX2_orderLeaders_40 : decode cX2_orderLeaders 40 = .ok (.iload_n 2, 1) := by decide +kernel
theorem dX2_orderLeaders_41 : decode cX2_orderLeaders 41 = .ok (.if_icmp .ne 35, 3) := by decide +kernel
theorem dX2_orderLeaders_44 : decode cX2_orderLeaders 44 = .ok (.aload_n 0, 1) := by decide +kernel
theorem dX2_orderLeaders_45 : decode cX2_orderLeaders 45 = .ok (.iload_n 2, 1) := by decide +kernel
theorem dX2_orderLeaders_46 : decode cX2_orderLeaders 46 = .ok (.invokevirtual 93, 3) := by decide +kernel
theorem dX2_orderLeaders_49 : decode cX2_orderLeaders 49 = .ok (.invokestatic 96, 3) := by decide +kernel
theorem dX2_orderLeaders_52 : decode cX2_orderLeaders 52 = .ok (.iload_n 1, 1) := by decide +kernel
theorem dX2_orderLeaders_53 : decode cX2_orderLeaders 53 = .ok (.if_icmp .ne 23, 3) := by decide +kernel
theorem dX2_orderLeaders_56 : decode cX2_orderLeaders 56 = .ok (.aload_n 0, 1) := by decide +kernel
theorem dX2_orderLeaders_57 : decode cX2_orderLeaders 57 = .ok (.getfield 28, 3) := by decide +kernel
theorem dX2_orderLeaders_60 : decode cX2_orderLeaders 60 = .ok (.aload_n 0, 1) := by decide +kernel
theorem dX2_orderLeaders_61 : decode cX2_orderLeaders 61 = .ok (.getfield 68, 3) := by decide +kernel
theorem dX2_orderLeaders_64 : decode cX2_orderLeaders 64 = .ok (.iload_n 2, 1) := by decide +kernel
theorem dX2_orderLeaders_65 : decode cX2_orderLeaders 65 = .ok (.iastore, 1) := by decide +kernel
theorem dX2_orderLeaders_66 : decode cX2_orderLeaders 66 = .ok (.aload_n 0, 1) := by decide +kernel
theorem dX2_orderLeaders_67 : decode cX2_orderLeaders 67 = .ok (.dup, 1) := by decide +kernel
theorem dX2_orderLeaders_68 : decode cX2_orderLeaders 68 = .ok (.getfield 68, 3) := by decide +kernel
theorem dX2_orderLeaders_71 : decode cX2_orderLeaders 71 = .ok (.iconst 1, 1) := by decide +kernel
theorem dX2_orderLeaders_72 : decode cX2_orderLeaders 72 = .ok (.iadd, 1) := by decide +kernel
theorem dX2_orderLeaders_73 : decode cX2_orderLeaders 73 = .ok (.putfield 68, 3) := by decide +kernel
theorem dX2_orderLeaders_76 : decode cX2_orderLeaders 76 = .ok (.iinc 2 1, 3) := by decide +kernel
theorem dX2_orderLeaders_79 : decode cX2_orderLeaders 79 = .ok (.goto (-59), 3) := by decide +kernel
theorem dX2_orderLeaders_82 : decode cX2_orderLeaders 82 = .ok (.iinc 1 1, 3) := by decide +kernel
theorem dX2_orderLeaders_85 : decode cX2_orderLeaders 85 = .ok (.goto (-78), 3) := by decide +kernel
theorem dX2_orderLeaders_88 : decode cX2_orderLeaders 88 = .ok (.return_, 1) := by decide +kernel
theorem dX3_init_0 : decode cX3_init 0 = .ok (.aload_n 0, 1) := by decide +kernel
theorem dX3_init_1 : decode cX3_init 1 = .ok (.invokespecial 3, 3) := by decide +kernel
theorem dX3_init_4 : decode cX3_init 4 = .ok (.aload_n 0, 1) := by decide +kernel
theorem dX3_init_5 : decode cX3_init 5 = .ok (.bipush 8, 2) := by decide +kernel
theorem dX3_init_7 : decode cX3_init 7 = .ok (.newarray .int, 2) := by decide +kernel
theorem dX3_init_9 : decode cX3_init 9 = .ok (.putfield 9, 3) := by decide +kernel
theorem dX3_init_12 : decode cX3_init 12 = .ok (.aload_n 0, 1) := by decide +kernel
theorem dX3_init_13 : decode cX3_init 13 = .ok (.bipush 8, 2) := by decide +kernel
theorem dX3_init_15 : decode cX3_init 15 = .ok (.newarray .int, 2) := by decide +kernel
theorem dX3_init_17 : decode cX3_init 17 = .ok (.putfield 15, 3) := by decide +kernel
theorem dX3_init_20 : decode cX3_init 20 = .ok (.aload_n 0, 1) := by decide +kernel
theorem dX3_init_21 : decode cX3_init 21 = .ok (.bipush 8, 2) := by decide +kernel
theorem dX3_init_23 : decode cX3_init 23 = .ok (.newarray .int, 2) := by decide +kernel
theorem dX3_init_25 : decode cX3_init 25 = .ok (.putfield 18, 3) := by decide +kernel
theorem dX3_init_28 : decode cX3_init 28 = .ok (.return_, 1) := by decide +kernel
theorem dX3_add_0 : decode cX3_add 0 = .ok (.aload_n 0, 1) := by decide +kernel
theorem dX3_add_1 : decode cX3_add 1 = .ok (.getfield 9, 3) := by decide +kernel
theorem dX3_add_4 : decode cX3_add 4 = .ok (.aload_n 0, 1) := by decide +kernel
theorem dX3_add_5 : decode cX3_add 5 = .ok (.getfield 21, 3) := by decide +kernel
theorem dX3_add_8 : decode cX3_add 8 = .ok (.iload_n 1, 1) := by decide +kernel
theorem dX3_add_9 : decode cX3_add 9 = .ok (.iastore, 1) := by decide +kernel
theorem dX3_add_10 : decode cX3_add 10 = .ok (.aload_n 0, 1) := by decide +kernel
theorem dX3_add_11 : decode cX3_add 11 = .ok (.getfield 15, 3) := by decide +kernel
theorem dX3_add_14 : decode cX3_add 14 = .ok (.aload_n 0, 1) := by decide +kernel
theorem dX3_add_15 : decode cX3_add 15 = .ok (.getfield 21, 3) := by decide +kernel
theorem dX3_add_18 : decode cX3_add 18 = .ok (.iload_n 2, 1) := by decide +kernel
theorem dX3_add_19 : decode cX3_add 19 = .ok (.iastore, 1) := by decide +kernel
theorem dX3_add_20 : decode cX3_add 20 = .ok (.aload_n 0, 1) := by decide +kernel
theorem dX3_add_21 : decode cX3_add 21 = .ok (.getfield 18, 3) := by decide +kernel
theorem dX3_add_24 : decode cX3_add 24 = .ok (.aload_n 0, 1) := by decide +kernel
theorem dX3_add_25 : decode cX3_add 25 = .ok (.getfield 21, 3) := by decide +kernel
theorem dX3_add_28 : decode cX3_add 28 = .ok (.iload_n 3, 1) := by decide +kernel
theorem dX3_add_29 : decode cX3_add 29 = .ok (.iastore, 1) := by decide +kernel
theorem dX3_add_30 : decode cX3_add 30 = .ok (.aload_n 0, 1) := by decide +kernel
theorem dX3_add_31 : decode cX3_add 31 = .ok (.dup, 1) := by decide +kernel
theorem dX3_add_32 : decode cX3_add 32 = .ok (.getfield 21, 3) := by decide +kernel
theorem dX3_add_35 : decode cX3_add 35 = .ok (.iconst 1, 1) := by decide +kernel
theorem dX3_add_36 : decode cX3_add 36 = .ok (.iadd, 1) := by decide +kernel
theorem dX3_add_37 : decode cX3_add 37 = .ok (.putfield 21, 3) := by decide +kernel
theorem dX3_add_40 : decode cX3_add 40 = .ok (.aload_n 0, 1) := by decide +kernel
theorem dX3_add_41 : decode cX3_add 41 = .ok (.getfield 21, 3) := by decide +kernel
theorem dX3_add_44 : decode cX3_add 44 = .ok (.iconst 1, 1) := by decide +kernel
theorem dX3_add_45 : decode cX3_add 45 = .ok (.isub, 1) := by decide +kernel
theorem dX3_add_46 : decode cX3_add 46 = .ok (.ireturn, 1) := by decide +kernel
theorem dX3_topAbove_0 : decode cX3_topAbove 0 = .ok (.iconst 0, 1) := by decide +kernel
theorem dX3_topAbove_1 : decode cX3_topAbove 1 = .ok (.istore_n 3, 1) := by decide +kernel
theorem dX3_topAbove_2 : decode cX3_topAbove 2 = .ok (.iload_n 1, 1) := by decide +kernel
theorem dX3_topAbove_3 : decode cX3_topAbove 3 = .ok (.iconst 1, 1) := by decide +kernel
theorem dX3_topAbove_4 : decode cX3_topAbove 4 = .ok (.iadd, 1) := by decide +kernel
theorem dX3_topAbove_5 : decode cX3_topAbove 5 = .ok (.istore 4, 2) := by decide +kernel
theorem dX3_topAbove_7 : decode cX3_topAbove 7 = .ok (.iload 4, 2) := by decide +kernel
theorem dX3_topAbove_9 : decode cX3_topAbove 9 = .ok (.bipush 7, 2) := by decide +kernel
theorem dX3_topAbove_11 : decode cX3_topAbove 11 = .ok (.if_icmp .gt 21, 3) := by decide +kernel
theorem dX3_topAbove_14 : decode cX3_topAbove 14 = .ok (.iload_n 3, 1) := by decide +kernel
theorem dX3_topAbove_15 : decode cX3_topAbove 15 = .ok (.aload_n 0, 1) := by decide +kernel
theorem dX3_topAbove_16 : decode cX3_topAbove 16 = .ok (.iload 4, 2) := by decide +kernel
theorem dX3_topAbove_18 : decode cX3_topAbove 18 = .ok (.aload_n 2, 1) := by decide +kernel
theorem dX3_topAbove_19 : decode cX3_topAbove 19 = .ok (.invokevirtual 25, 3) := by decide +kernel
theorem dX3_topAbove_22 : decode cX3_topAbove 22 = .ok (.invokestatic 29, 3) := by decide +kernel
theorem dX3_topAbove_25 : decode cX3_topAbove 25 = .ok (.istore_n 3, 1) := by decide +kernel
theorem dX3_topAbove_26 : decode cX3_topAbove 26 = .ok (.iinc 4 1, 3) := by decide +kernel
theorem dX3_topAbove_29 : decode cX3_topAbove 29 = .ok (.goto (-22), 3) := by decide +kernel
theorem dX3_topAbove_32 : decode cX3_topAbove 32 = .ok (.iload_n 3, 1) := by decide +kernel
theorem dX3_topAbove_33 : decode cX3_topAbove 33 = .ok (.ireturn, 1) := by decide +kernel
theorem dX3_greatestAt_0 : decode cX3_greatestAt 0 = .ok (.iconst 0, 1) := by decide +kernel
theorem dX3_greatestAt_1 : decode cX3_greatestAt 1 = .ok (.istore_n 3, 1) := by decide +kernel
theorem dX3_greatestAt_2 : decode cX3_greatestAt 2 = .ok (.iconst 0, 1) := by decide +kernel
theorem dX3_greatestAt_3 : decode cX3_greatestAt 3 = .ok (.istore 4, 2) := by decide +kernel
theorem dX3_greatestAt_5 : decode cX3_greatestAt 5 = .ok (.iload 4, 2) := by decide +kernel
theorem dX3_greatestAt_7 : decode cX3_greatestAt 7 = .ok (.aload_n 0, 1) := by decide +kernel
theorem dX3_greatestAt_8 : decode cX3_greatestAt 8 = .ok (.getfield 21, 3) := by decide +kernel
theorem dX3_greatestAt_11 : decode cX3_greatestAt 11 = .ok (.if_icmp .ge 44, 3) := by decide +kernel
theorem dX3_greatestAt_14 : decode cX3_greatestAt 14 = .ok (.aload_n 0, 1) := by decide +kernel
theorem dX3_greatestAt_15 : decode cX3_greatestAt 15 = .ok (.getfield 9, 3) := by decide +kernel
theorem dX3_greatestAt_18 : decode cX3_greatestAt 18 = .ok (.iload 4, 2) := by decide +kernel
theorem dX3_greatestAt_20 : decode cX3_greatestAt 20 = .ok (.iaload, 1) := by decide +kernel
theorem dX3_greatestAt_21 : decode cX3_greatestAt 21 = .ok (.iload_n 1, 1) := by decide +kernel
theorem dX3_greatestAt_22 : decode cX3_greatestAt 22 = .ok (.if_icmp .ne 27, 3) := by decide +kernel
theorem dX3_greatestAt_25 : decode cX3_greatestAt 25 = .ok (.iload_n 3, 1) := by decide +kernel
theorem dX3_greatestAt_26 : decode cX3_greatestAt 26 = .ok (.aload_n 0, 1) := by decide +kernel
theorem dX3_greatestAt_27 : decode cX3_greatestAt 27 = .ok (.getfield 18, 3) := by decide +kernel
theorem dX3_greatestAt_30 : decode cX3_greatestAt 30 = .ok (.iload 4, 2) := by decide +kernel
theorem dX3_greatestAt_32 : decode cX3_greatestAt 32 = .ok (.iaload, 1) := by decide +kernel
theorem dX3_greatestAt_33 : decode cX3_greatestAt 33 = .ok (.aload_n 2, 1) := by decide +kernel
theorem dX3_greatestAt_34 : decode cX3_greatestAt 34 = .ok (.aload_n 0, 1) := by decide +kernel
theorem dX3_greatestAt_35 : decode cX3_greatestAt 35 = .ok (.getfield 15, 3) := by decide +kernel
theorem dX3_greatestAt_38 : decode cX3_greatestAt 38 = .ok (.iload 4, 2) := by decide +kernel
theorem dX3_greatestAt_40 : decode cX3_greatestAt 40 = .ok (.iaload, 1) := by decide +kernel
theorem dX3_greatestAt_41 : decode cX3_greatestAt 41 = .ok (.iaload, 1) := by decide +kernel
theorem dX3_greatestAt_42 : decode cX3_greatestAt 42 = .ok (.invokestatic 29, 3) := by decide +kernel
theorem dX3_greatestAt_45 : decode cX3_greatestAt 45 = .ok (.invokestatic 33, 3) := by decide +kernel
theorem dX3_greatestAt_48 : decode cX3_greatestAt 48 = .ok (.istore_n 3, 1) := by decide +kernel
theorem dX3_greatestAt_49 : decode cX3_greatestAt 49 = .ok (.iinc 4 1, 3) := by decide +kernel
theorem dX3_greatestAt_52 : decode cX3_greatestAt 52 = .ok (.goto (-47), 3) := by decide +kernel
theorem dX3_greatestAt_55 : decode cX3_greatestAt 55 = .ok (.iload_n 3, 1) := by decide +kernel
theorem dX3_greatestAt_56 : decode cX3_greatestAt 56 = .ok (.ireturn, 1) := by decide +kernel
theorem dX4_init_0 : decode cX4_init 0 = .ok (.aload_n 0, 1) := by decide +kernel
theorem dX4_init_1 : decode cX4_init 1 = .ok (.invokespecial 3, 3) := by decide +kernel
theorem dX4_init_4 : decode cX4_init 4 = .ok (.aload_n 0, 1) := by decide +kernel
theorem dX4_init_5 : decode cX4_init 5 = .ok (.bipush 8, 2) := by decide +kernel
theorem dX4_init_7 : decode cX4_init 7 = .ok (.newarray .int, 2) := by decide +kernel
theorem dX4_init_9 : decode cX4_init 9 = .ok (.putfield 9, 3) := by decide +kernel
theorem dX4_init_12 : decode cX4_init 12 = .ok (.aload_n 0, 1) := by decide +kernel
theorem dX4_init_13 : decode cX4_init 13 = .ok (.bipush 8, 2) := by decide +kernel
theorem dX4_init_15 : decode cX4_init 15 = .ok (.newarray .int, 2) := by decide +kernel
theorem dX4_init_17 : decode cX4_init 17 = .ok (.putfield 15, 3) := by decide +kernel
theorem dX4_init_20 : decode cX4_init 20 = .ok (.aload_n 0, 1) := by decide +kernel
theorem dX4_init_21 : decode cX4_init 21 = .ok (.bipush 8, 2) := by decide +kernel
theorem dX4_init_23 : decode cX4_init 23 = .ok (.newarray .int, 2) := by decide +kernel
theorem dX4_init_25 : decode cX4_init 25 = .ok (.putfield 18, 3) := by decide +kernel
theorem dX4_init_28 : decode cX4_init 28 = .ok (.return_, 1) := by decide +kernel
theorem dX4_addTaken_0 : decode cX4_addTaken 0 = .ok (.aload_n 0, 1) := by decide +kernel
theorem dX4_addTaken_1 : decode cX4_addTaken 1 = .ok (.getfield 9, 3) := by decide +kernel
theorem dX4_addTaken_4 : decode cX4_addTaken 4 = .ok (.iload_n 1, 1) := by decide +kernel
theorem dX4_addTaken_5 : decode cX4_addTaken 5 = .ok (.dup2, 1) := by decide +kernel
theorem dX4_addTaken_6 : decode cX4_addTaken 6 = .ok (.iaload, 1) := by decide +kernel
theorem dX4_addTaken_7 : decode cX4_addTaken 7 = .ok (.iconst 1, 1) := by decide +kernel
theorem dX4_addTaken_8 : decode cX4_addTaken 8 = .ok (.iload_n 2, 1) := by decide +kernel
theorem dX4_addTaken_9 : decode cX4_addTaken 9 = .ok (.ishl, 1) := by decide +kernel
theorem dX4_addTaken_10 : decode cX4_addTaken 10 = .ok (.ior, 1) := by decide +kernel
theorem dX4_addTaken_11 : decode cX4_addTaken 11 = .ok (.iastore, 1) := by decide +kernel
theorem dX4_addTaken_12 : decode cX4_addTaken 12 = .ok (.aload_n 0, 1) := by decide +kernel
theorem dX4_addTaken_13 : decode cX4_addTaken 13 = .ok (.invokevirtual 21, 3) := by decide +kernel
theorem dX4_addTaken_16 : decode cX4_addTaken 16 = .ok (.return_, 1) := by decide +kernel
theorem dX4_addSource_0 : decode cX4_addSource 0 = .ok (.aload_n 0, 1) := by decide +kernel
theorem dX4_addSource_1 : decode cX4_addSource 1 = .ok (.getfield 15, 3) := by decide +kernel
theorem dX4_addSource_4 : decode cX4_addSource 4 = .ok (.iload_n 1, 1) := by decide +kernel
theorem dX4_addSource_5 : decode cX4_addSource 5 = .ok (.dup2, 1) := by decide +kernel
theorem dX4_addSource_6 : decode cX4_addSource 6 = .ok (.iaload, 1) := by decide +kernel
theorem dX4_addSource_7 : decode cX4_addSource 7 = .ok (.iconst 1, 1) := by decide +kernel
theorem dX4_addSource_8 : decode cX4_addSource 8 = .ok (.iload_n 2, 1) := by decide +kernel
theorem dX4_addSource_9 : decode cX4_addSource 9 = .ok (.ishl, 1) := by decide +kernel
theorem dX4_addSource_10 : decode cX4_addSource 10 = .ok (.ior, 1) := by decide +kernel
theorem dX4_addSource_11 : decode cX4_addSource 11 = .ok (.iastore, 1) := by decide +kernel
theorem dX4_addSource_12 : decode cX4_addSource 12 = .ok (.aload_n 0, 1) := by decide +kernel
theorem dX4_addSource_13 : decode cX4_addSource 13 = .ok (.invokevirtual 21, 3) := by decide +kernel
theorem dX4_addSource_16 : decode cX4_addSource 16 = .ok (.return_, 1) := by decide +kernel
theorem dX4_spreadGoals_0 : decode cX4_spreadGoals 0 = .ok (.iconst 0, 1) := by decide +kernel
theorem dX4_spreadGoals_1 : decode cX4_spreadGoals 1 = .ok (.istore_n 1, 1) := by decide +kernel
theorem dX4_spreadGoals_2 : decode cX4_spreadGoals 2 = .ok (.iload_n 1, 1) := by decide +kernel
theorem dX4_spreadGoals_3 : decode cX4_spreadGoals 3 = .ok (.bipush 8, 2) := by decide +kernel
theorem dX4_spreadGoals_5 : decode cX4_spreadGoals 5 = .ok (.if_icmp .ge 52, 3) := by decide +kernel
theorem dX4_spreadGoals_8 : decode cX4_spreadGoals 8 = .ok (.iconst 0, 1) := by decide +kernel
theorem dX4_spreadGoals_9 : decode cX4_spreadGoals 9 = .ok (.istore_n 2, 1) := by decide +kernel
theorem dX4_spreadGoals_10 : decode cX4_spreadGoals 10 = .ok (.iload_n 2, 1) := by decide +kernel
theorem dX4_spreadGoals_11 : decode cX4_spreadGoals 11 = .ok (.bipush 8, 2) := by decide +kernel
theorem dX4_spreadGoals_13 : decode cX4_spreadGoals 13 = .ok (.if_icmp .ge 38, 3) := by decide +kernel
theorem dX4_spreadGoals_16 : decode cX4_spreadGoals 16 = .ok (.aload_n 0, 1) := by decide +kernel
theorem dX4_spreadGoals_17 : decode cX4_spreadGoals 17 = .ok (.getfield 18, 3) := by decide +kernel
theorem dX4_spreadGoals_20 : decode cX4_spreadGoals 20 = .ok (.iload_n 2, 1) := by decide +kernel
theorem dX4_spreadGoals_21 : decode cX4_spreadGoals 21 = .ok (.dup2, 1) := by decide +kernel
theorem dX4_spreadGoals_22 : decode cX4_spreadGoals 22 = .ok (.iaload, 1) := by decide +kernel
theorem dX4_spreadGoals_23 : decode cX4_spreadGoals 23 = .ok (.aload_n 0, 1) := by decide +kernel
theorem dX4_spreadGoals_24 : decode cX4_spreadGoals 24 = .ok (.getfield 9, 3) := by decide +kernel
theorem dX4_spreadGoals_27 : decode cX4_spreadGoals 27 = .ok (.iload_n 2, 1) := by decide +kernel
theorem dX4_spreadGoals_28 : decode cX4_spreadGoals 28 = .ok (.iaload, 1) := by decide +kernel
theorem dX4_spreadGoals_29 : decode cX4_spreadGoals 29 = .ok (.aload_n 0, 1) := by decide +kernel
theorem dX4_spreadGoals_30 : decode cX4_spreadGoals 30 = .ok (.getfield 18, 3) := by decide +kernel
theorem dX4_spreadGoals_33 : decode cX4_spreadGoals 33 = .ok (.aload_n 0, 1) := by decide +kernel
theorem dX4_spreadGoals_34 : decode cX4_spreadGoals 34 = .ok (.getfield 15, 3) := by decide +kernel
theorem dX4_spreadGoals_37 : decode cX4_spreadGoals 37 = .ok (.iload_n 2, 1) := by decide +kernel
theorem dX4_spreadGoals_38 : decode cX4_spreadGoals 38 = .ok (.iaload, 1) := by decide +kernel
theorem dX4_spreadGoals_39 : decode cX4_spreadGoals 39 = .ok (.invokestatic 24, 3) := by decide +kernel
theorem dX4_spreadGoals_42 : decode cX4_spreadGoals 42 = .ok (.ior, 1) := by decide +kernel
theorem dX4_spreadGoals_43 : decode cX4_spreadGoals 43 = .ok (.ior, 1) := by decide +kernel
theorem dX4_spreadGoals_44 : decode cX4_spreadGoals 44 = .ok (.iastore, 1) := by decide +kernel
theorem dX4_spreadGoals_45 : decode cX4_spreadGoals 45 = .ok (.iinc 2 1, 3) := by decide +kernel
theorem dX4_spreadGoals_48 : decode cX4_spreadGoals 48 = .ok (.goto (-38), 3) := by decide +kernel
theorem dX4_spreadGoals_51 : decode cX4_spreadGoals 51 = .ok (.iinc 1 1, 3) := by decide +kernel
theorem dX4_spreadGoals_54 : decode cX4_spreadGoals 54 = .ok (.goto (-52), 3) := by decide +kernel
theorem dX4_spreadGoals_57 : decode cX4_spreadGoals 57 = .ok (.return_, 1) := by decide +kernel
theorem dX4_unionOf_0 : decode cX4_unionOf 0 = .ok (.iconst 0, 1) := by decide +kernel
theorem dX4_unionOf_1 : decode cX4_unionOf 1 = .ok (.istore_n 2, 1) := by decide +kernel
theorem dX4_unionOf_2 : decode cX4_unionOf 2 = .ok (.iconst 0, 1) := by decide +kernel
theorem dX4_unionOf_3 : decode cX4_unionOf 3 = .ok (.istore_n 3, 1) := by decide +kernel
theorem dX4_unionOf_4 : decode cX4_unionOf 4 = .ok (.iload_n 3, 1) := by decide +kernel
theorem dX4_unionOf_5 : decode cX4_unionOf 5 = .ok (.bipush 8, 2) := by decide +kernel
theorem dX4_unionOf_7 : decode cX4_unionOf 7 = .ok (.if_icmp .ge 23, 3) := by decide +kernel
theorem dX4_unionOf_10 : decode cX4_unionOf 10 = .ok (.iload_n 1, 1) := by decide +kernel
theorem dX4_unionOf_11 : decode cX4_unionOf 11 = .ok (.iload_n 3, 1) := by decide +kernel
theorem dX4_unionOf_12 : decode cX4_unionOf 12 = .ok (.invokestatic 28, 3) := by decide +kernel
theorem dX4_unionOf_15 : decode cX4_unionOf 15 = .ok (.ifCond .eq 9, 3) := by decide +kernel
theorem dX4_unionOf_18 : decode cX4_unionOf 18 = .ok (.iload_n 2, 1) := by decide +kernel
theorem dX4_unionOf_19 : decode cX4_unionOf 19 = .ok (.aload_n 0, 1) := by decide +kernel
theorem dX4_unionOf_20 : decode cX4_unionOf 20 = .ok (.iload_n 3, 1) := by decide +kernel
theorem dX4_unionOf_21 : decode cX4_unionOf 21 = .ok (.iaload, 1) := by decide +kernel
theorem dX4_unionOf_22 : decode cX4_unionOf 22 = .ok (.ior, 1) := by decide +kernel
theorem dX4_unionOf_23 : decode cX4_unionOf 23 = .ok (.istore_n 2, 1) := by decide +kernel
theorem dX4_unionOf_24 : decode cX4_unionOf 24 = .ok (.iinc 3 1, 3) := by decide +kernel
theorem dX4_unionOf_27 : decode cX4_unionOf 27 = .ok (.goto (-23), 3) := by decide +kernel
theorem dX4_unionOf_30 : decode cX4_unionOf 30 = .ok (.iload_n 2, 1) := by decide +kernel
theorem dX4_unionOf_31 : decode cX4_unionOf 31 = .ok (.ireturn, 1) := by decide +kernel
theorem dX5_init_0 : decode cX5_init 0 = .ok (.aload_n 0, 1) := by decide +kernel
theorem dX5_init_1 : decode cX5_init 1 = .ok (.invokespecial 3, 3) := by decide +kernel
theorem dX5_init_4 : decode cX5_init 4 = .ok (.aload_n 0, 1) := by decide +kernel
theorem dX5_init_5 : decode cX5_init 5 = .ok (.bipush 20, 2) := by decide +kernel
theorem dX5_init_7 : decode cX5_init 7 = .ok (.newarray .int, 2) := by decide +kernel
theorem dX5_init_9 : decode cX5_init 9 = .ok (.putfield 9, 3) := by decide +kernel
theorem dX5_init_12 : decode cX5_init 12 = .ok (.aload_n 0, 1) := by decide +kernel
theorem dX5_init_13 : decode cX5_init 13 = .ok (.bipush 20, 2) := by decide +kernel
theorem dX5_init_15 : decode cX5_init 15 = .ok (.newarray .int, 2) := by decide +kernel
theorem dX5_init_17 : decode cX5_init 17 = .ok (.putfield 15, 3) := by decide +kernel
theorem dX5_init_20 : decode cX5_init 20 = .ok (.return_, 1) := by decide +kernel
theorem dX5_add_0 : decode cX5_add 0 = .ok (.aload_n 0, 1) := by decide +kernel
theorem dX5_add_1 : decode cX5_add 1 = .ok (.getfield 9, 3) := by decide +kernel
theorem dX5_add_4 : decode cX5_add 4 = .ok (.aload_n 0, 1) := by decide +kernel
theorem dX5_add_5 : decode cX5_add 5 = .ok (.getfield 18, 3) := by decide +kernel
theorem dX5_add_8 : decode cX5_add 8 = .ok (.iload_n 1, 1) := by decide +kernel
theorem dX5_add_9 : decode cX5_add 9 = .ok (.iastore, 1) := by decide +kernel
theorem dX5_add_10 : decode cX5_add 10 = .ok (.aload_n 0, 1) := by decide +kernel
theorem dX5_add_11 : decode cX5_add 11 = .ok (.dup, 1) := by decide +kernel
theorem dX5_add_12 : decode cX5_add 12 = .ok (.getfield 18, 3) := by decide +kernel
theorem dX5_add_15 : decode cX5_add 15 = .ok (.iconst 1, 1) := by decide +kernel
theorem dX5_add_16 : decode cX5_add 16 = .ok (.iadd, 1) := by decide +kernel
theorem dX5_add_17 : decode cX5_add 17 = .ok (.putfield 18, 3) := by decide +kernel
theorem dX5_add_20 : decode cX5_add 20 = .ok (.aload_n 0, 1) := by decide +kernel
theorem dX5_add_21 : decode cX5_add 21 = .ok (.getfield 18, 3) := by decide +kernel
theorem dX5_add_24 : decode cX5_add 24 = .ok (.iconst 1, 1) := by decide +kernel
theorem dX5_add_25 : decode cX5_add 25 = .ok (.isub, 1) := by decide +kernel
theorem dX5_add_26 : decode cX5_add 26 = .ok (.ireturn, 1) := by decide +kernel
theorem dX5_withoutTurns_0 : decode cX5_withoutTurns 0 = .ok (.iconst 0, 1) := by decide +kernel
theorem dX5_withoutTurns_1 : decode cX5_withoutTurns 1 = .ok (.istore_n 1, 1) := by decide +kernel
theorem dX5_withoutTurns_2 : decode cX5_withoutTurns 2 = .ok (.iconst 0, 1) := by decide +kernel
theorem dX5_withoutTurns_3 : decode cX5_withoutTurns 3 = .ok (.istore_n 2, 1) := by decide +kernel
theorem dX5_withoutTurns_4 : decode cX5_withoutTurns 4 = .ok (.iload_n 2, 1) := by decide +kernel
theorem dX5_withoutTurns_5 : decode cX5_withoutTurns 5 = .ok (.aload_n 0, 1) := by decide +kernel
theorem dX5_withoutTurns_6 : decode cX5_withoutTurns 6 = .ok (.getfield 18, 3) := by decide +kernel
theorem dX5_withoutTurns_9 : decode cX5_withoutTurns 9 = .ok (.if_icmp .ge 24, 3) := by decide +kernel
theorem dX5_withoutTurns_12 : decode cX5_withoutTurns 12 = .ok (.aload_n 0, 1) := by decide +kernel
theorem dX5_withoutTurns_13 : decode cX5_withoutTurns 13 = .ok (.getfield 15, 3) := by decide +kernel
theorem dX5_withoutTurns_16 : decode cX5_withoutTurns 16 = .ok (.iload_n 2, 1) := by decide +kernel
theorem dX5_withoutTurns_17 : decode cX5_withoutTurns 17 = .ok (.iaload, 1) := by decide +kernel
theorem dX5_withoutTurns_18 : decode cX5_withoutTurns 18 = .ok (.ifCond .ne 9, 3) := by decide +kernel
theorem dX5_withoutTurns_21 : decode cX5_withoutTurns 21 = .ok (.iload_n 1, 1) := by decide +kernel
theorem dX5_withoutTurns_22 : decode cX5_withoutTurns 22 = .ok (.iconst 1, 1) := by decide +kernel
theorem dX5_withoutTurns_23 : decode cX5_withoutTurns 23 = .ok (.iload_n 2, 1) := by decide +kernel
theorem dX5_withoutTurns_24 : decode cX5_withoutTurns 24 = .ok (.ishl, 1) := by decide +kernel
theorem dX5_withoutTurns_25 : decode cX5_withoutTurns 25 = .ok (.ior, 1) := by decide +kernel
theorem dX5_withoutTurns_26 : decode cX5_withoutTurns 26 = .ok (.istore_n 1, 1) := by decide +kernel
theorem dX5_withoutTurns_27 : decode cX5_withoutTurns 27 = .ok (.iinc 2 1, 3) := by decide +kernel
theorem dX5_withoutTurns_30 : decode cX5_withoutTurns 30 = .ok (.goto (-26), 3) := by decide +kernel
theorem dX5_withoutTurns_33 : decode cX5_withoutTurns 33 = .ok (.iload_n 1, 1) := by decide +kernel
theorem dX5_withoutTurns_34 : decode cX5_withoutTurns 34 = .ok (.ireturn, 1) := by decide +kernel
theorem dX6_init_0 : decode cX6_init 0 = .ok (.aload_n 0, 1) := by decide +kernel
theorem dX6_init_1 : decode cX6_init 1 = .ok (.invokespecial 3, 3) := by decide +kernel
theorem dX6_init_4 : decode cX6_init 4 = .ok (.aload_n 0, 1) := by decide +kernel
theorem dX6_init_5 : decode cX6_init 5 = .ok (.bipush 6, 2) := by decide +kernel
theorem dX6_init_7 : decode cX6_init 7 = .ok (.newarray .int, 2) := by decide +kernel
theorem dX6_init_9 : decode cX6_init 9 = .ok (.putfield 9, 3) := by decide +kernel
theorem dX6_init_12 : decode cX6_init 12 = .ok (.aload_n 0, 1) := by decide +kernel
theorem dX6_init_13 : decode cX6_init 13 = .ok (.bipush 6, 2) := by decide +kernel
theorem dX6_init_15 : decode cX6_init 15 = .ok (.newarray .int, 2) := by decide +kernel
theorem dX6_init_17 : decode cX6_init 17 = .ok (.putfield 15, 3) := by decide +kernel
theorem dX6_init_20 : decode cX6_init 20 = .ok (.aload_n 0, 1) := by decide +kernel
theorem dX6_init_21 : decode cX6_init 21 = .ok (.bipush 6, 2) := by decide +kernel
theorem dX6_init_23 : decode cX6_init 23 = .ok (.newarray .int, 2) := by decide +kernel
theorem dX6_init_25 : decode cX6_init 25 = .ok (.putfield 18, 3) := by decide +kernel
theorem dX6_init_28 : decode cX6_init 28 = .ok (.aload_n 0, 1) := by decide +kernel
theorem dX6_init_29 : decode cX6_init 29 = .ok (.bipush 6, 2) := by decide +kernel
theorem dX6_init_31 : decode cX6_init 31 = .ok (.newarray .int, 2) := by decide +kernel
theorem dX6_init_33 : decode cX6_init 33 = .ok (.putfield 21, 3) := by decide +kernel
theorem dX6_init_36 : decode cX6_init 36 = .ok (.aload_n 0, 1) := by decide +kernel
theorem dX6_init_37 : decode cX6_init 37 = .ok (.bipush 6, 2) := by decide +kernel
theorem dX6_init_39 : decode cX6_init 39 = .ok (.newarray .int, 2) := by decide +kernel
theorem dX6_init_41 : decode cX6_init 41 = .ok (.putfield 24, 3) := by decide +kernel
theorem dX6_init_44 : decode cX6_init 44 = .ok (.return_, 1) := by decide +kernel
theorem dX6_divide_0 : decode cX6_divide 0 = .ok (.aload_n 0, 1) := by decide +kernel
theorem dX6_divide_1 : decode cX6_divide 1 = .ok (.iconst 1, 1) := by decide +kernel
theorem dX6_divide_2 : decode cX6_divide 2 = .ok (.putfield 27, 3) := by decide +kernel
theorem dX6_divide_5 : decode cX6_divide 5 = .ok (.iconst 0, 1) := by decide +kernel
theorem dX6_divide_6 : decode cX6_divide 6 = .ok (.istore_n 2, 1) := by decide +kernel
theorem dX6_divide_7 : decode cX6_divide 7 = .ok (.iload_n 2, 1) := by decide +kernel
theorem dX6_divide_8 : decode cX6_divide 8 = .ok (.aload_n 1, 1) := by decide +kernel
theorem dX6_divide_9 : decode cX6_divide 9 = .ok (.getfield 31, 3) := by decide +kernel
theorem dX6_divide_12 : decode cX6_divide 12 = .ok (.if_icmp .ge 24, 3) := by decide +kernel
theorem dX6_divide_15 : decode cX6_divide 15 = .ok (.aload_n 0, 1) := by decide +kernel
theorem dX6_divide_16 : decode cX6_divide 16 = .ok (.dup, 1) := by decide +kernel
theorem dX6_divide_17 : decode cX6_divide 17 = .ok (.getfield 27, 3) := by decide +kernel
theorem dX6_divide_20 : decode cX6_divide 20 = .ok (.aload_n 0, 1) := by decide +kernel
theorem dX6_divide_21 : decode cX6_divide 21 = .ok (.getfield 9, 3) := by decide +kernel
theorem dX6_divide_24 : decode cX6_divide 24 = .ok (.iload_n 2, 1) := by decide +kernel
theorem dX6_divide_25 : decode cX6_divide 25 = .ok (.iaload, 1) := by decide +kernel
theorem dX6_divide_26 : decode cX6_divide 26 = .ok (.iadd, 1) := by decide +kernel
theorem dX6_divide_27 : decode cX6_divide 27 = .ok (.putfield 27, 3) := by decide +kernel
theorem dX6_divide_30 : decode cX6_divide 30 = .ok (.iinc 2 1, 3) := by decide +kernel
theorem dX6_divide_33 : decode cX6_divide 33 = .ok (.goto (-26), 3) := by decide +kernel
theorem dX6_divide_36 : decode cX6_divide 36 = .ok (.aload_n 0, 1) := by decide +kernel
theorem dX6_divide_37 : decode cX6_divide 37 = .ok (.aload_n 1, 1) := by decide +kernel
theorem dX6_divide_38 : decode cX6_divide 38 = .ok (.iconst 0, 1) := by decide +kernel
theorem dX6_divide_39 : decode cX6_divide 39 = .ok (.iconst 0, 1) := by decide +kernel
theorem dX6_divide_40 : decode cX6_divide 40 = .ok (.iconst 0, 1) := by decide +kernel
theorem dX6_divide_41 : decode cX6_divide 41 = .ok (.invokevirtual 36, 3) := by decide +kernel
theorem dX6_divide_44 : decode cX6_divide 44 = .ok (.aload_n 0, 1) := by decide +kernel
theorem dX6_divide_45 : decode cX6_divide 45 = .ok (.getfield 27, 3) := by decide +kernel
theorem dX6_divide_48 : decode cX6_divide 48 = .ok (.ireturn, 1) := by decide +kernel
theorem dX6_place_0 : decode cX6_place 0 = .ok (.iload 4, 2) := by decide +kernel
theorem dX6_place_2 : decode cX6_place 2 = .ok (.aload_n 0, 1) := by decide +kernel
theorem dX6_place_3 : decode cX6_place 3 = .ok (.getfield 27, 3) := by decide +kernel
theorem dX6_place_6 : decode cX6_place 6 = .ok (.if_icmp .lt 4, 3) := by decide +kernel
theorem dX6_place_9 : decode cX6_place 9 = .ok (.return_, 1) := by decide +kernel
theorem dX6_place_10 : decode cX6_place 10 = .ok (.iload_n 2, 1) := by decide +kernel
theorem dX6_place_11 : decode cX6_place 11 = .ok (.aload_n 1, 1) := by decide +kernel
theorem dX6_place_12 : decode cX6_place 12 = .ok (.getfield 31, 3) := by decide +kernel
theorem dX6_place_15 : decode cX6_place 15 = .ok (.if_icmp .lt 10, 3) := by decide +kernel
theorem dX6_place_18 : decode cX6_place 18 = .ok (.aload_n 0, 1) := by decide +kernel
theorem dX6_place_19 : decode cX6_place 19 = .ok (.iload 4, 2) := by decide +kernel
theorem dX6_place_21 : decode cX6_place 21 = .ok (.invokevirtual 40, 3) := by decide +kernel
theorem dX6_place_24 : decode cX6_place 24 = .ok (.return_, 1) := by decide +kernel
theorem dX6_place_25 : decode cX6_place 25 = .ok (.iconst 0, 1) := by decide +kernel
theorem dX6_place_26 : decode cX6_place 26 = .ok (.istore 5, 2) := by decide +kernel
theorem dX6_place_28 : decode cX6_place 28 = .ok (.iload 5, 2) := by decide +kernel
theorem dX6_place_30 : decode cX6_place 30 = .ok (.iload_n 3, 1) := by decide +kernel
theorem dX6_place_31 : decode cX6_place 31 = .ok (.if_icmp .gt 136, 3) := by decide +kernel
theorem dX6_place_34 : decode cX6_place 34 = .ok (.iload 5, 2) := by decide +kernel
theorem dX6_place_36 : decode cX6_place 36 = .ok (.bipush 6, 2) := by decide +kernel
theorem dX6_place_38 : decode cX6_place 38 = .ok (.if_icmp .ge 129, 3) := by decide +kernel
theorem dX6_place_41 : decode cX6_place 41 = .ok (.aload_n 0, 1) := by decide +kernel
theorem dX6_place_42 : decode cX6_place 42 = .ok (.getfield 21, 3) := by decide +kernel
theorem dX6_place_45 : decode cX6_place 45 = .ok (.iload 5, 2) := by decide +kernel
theorem dX6_place_47 : decode cX6_place 47 = .ok (.iaload, 1) := by decide +kernel
theorem dX6_place_48 : decode cX6_place 48 = .ok (.aload_n 1, 1) := by decide +kernel
theorem dX6_place_49 : decode cX6_place 49 = .ok (.getfield 44, 3) := by decide +kernel
theorem dX6_place_52 : decode cX6_place 52 = .ok (.iload_n 2, 1) := by decide +kernel
theorem dX6_place_53 : decode cX6_place 53 = .ok (.iaload, 1) := by decide +kernel
theorem dX6_place_54 : decode cX6_place 54 = .ok (.iconst (-1), 1) := by decide +kernel
theorem dX6_place_55 : decode cX6_place 55 = .ok (.ixor, 1) := by decide +kernel
theorem dX6_place_56 : decode cX6_place 56 = .ok (.iand, 1) := by decide +kernel
theorem dX6_place_57 : decode cX6_place 57 = .ok (.ifCond .ne 104, 3) := by decide +kernel
theorem dX6_place_60 : decode cX6_place 60 = .ok (.aload_n 0, 1) := by decide +kernel
theorem dX6_place_61 : decode cX6_place 61 = .ok (.getfield 24, 3) := by decide +kernel
theorem dX6_place_64 : decode cX6_place 64 = .ok (.iload 5, 2) := by decide +kernel
theorem dX6_place_66 : decode cX6_place 66 = .ok (.iaload, 1) := by decide +kernel
theorem dX6_place_67 : decode cX6_place 67 = .ok (.istore 6, 2) := by decide +kernel
theorem dX6_place_69 : decode cX6_place 69 = .ok (.aload_n 0, 1) := by decide +kernel
theorem dX6_place_70 : decode cX6_place 70 = .ok (.getfield 24, 3) := by decide +kernel
theorem dX6_place_73 : decode cX6_place 73 = .ok (.iload 5, 2) := by decide +kernel
theorem dX6_place_75 : decode cX6_place 75 = .ok (.iload 6, 2) := by decide +kernel
theorem dX6_place_77 : decode cX6_place 77 = .ok (.aload_n 0, 1) := by decide +kernel
theorem dX6_place_78 : decode cX6_place 78 = .ok (.getfield 9, 3) := by decide +kernel
theorem dX6_place_81 : decode cX6_place 81 = .ok (.iload_n 2, 1) := by decide +kernel
theorem dX6_place_82 : decode cX6_place 82 = .ok (.iaload, 1) := by decide +kernel
theorem dX6_place_83 : decode cX6_place 83 = .ok (.invokestatic 47, 3) := by decide +kernel
theorem dX6_place_86 : decode cX6_place 86 = .ok (.iastore, 1) := by decide +kernel
theorem dX6_place_87 : decode cX6_place 87 = .ok (.aload_n 0, 1) := by decide +kernel
theorem dX6_place_88 : decode cX6_place 88 = .ok (.getfield 21, 3) := by decide +kernel
theorem dX6_place_91 : decode cX6_place 91 = .ok (.iload 5, 2) := by decide +kernel
theorem dX6_place_93 : decode cX6_place 93 = .ok (.dup2, 1) := by decide +kernel
theorem dX6_place_94 : decode cX6_place 94 = .ok (.iaload, 1) := by decide +kernel
theorem dX6_place_95 : decode cX6_place 95 = .ok (.iconst 1, 1) := by decide +kernel
theorem dX6_place_96 : decode cX6_place 96 = .ok (.iload_n 2, 1) := by decide +kernel
theorem dX6_place_97 : decode cX6_place 97 = .ok (.ishl, 1) := by decide +kernel
theorem dX6_place_98 : decode cX6_place 98 = .ok (.ior, 1) := by decide +kernel
theorem dX6_place_99 : decode cX6_place 99 = .ok (.iastore, 1) := by decide +kernel
theorem dX6_place_100 : decode cX6_place 100 = .ok (.aload_n 0, 1) := by decide +kernel
theorem dX6_place_101 : decode cX6_place 101 = .ok (.getfield 18, 3) := by decide +kernel
theorem dX6_place_104 : decode cX6_place 104 = .ok (.iload_n 2, 1) := by decide +kernel
theorem dX6_place_105 : decode cX6_place 105 = .ok (.iload 5, 2) := by decide +kernel
theorem dX6_place_107 : decode cX6_place 107 = .ok (.iastore, 1) := by decide +kernel
theorem dX6_place_108 : decode cX6_place 108 = .ok (.aload_n 0, 1) := by decide +kernel
theorem dX6_place_109 : decode cX6_place 109 = .ok (.aload_n 1, 1) := by decide +kernel
theorem dX6_place_110 : decode cX6_place 110 = .ok (.iload_n 2, 1) := by decide +kernel
theorem dX6_place_111 : decode cX6_place 111 = .ok (.iconst 1, 1) := by decide +kernel
theorem dX6_place_112 : decode cX6_place 112 = .ok (.iadd, 1) := by decide +kernel
theorem dX6_place_113 : decode cX6_place 113 = .ok (.iload_n 3, 1) := by decide +kernel
theorem dX6_place_114 : decode cX6_place 114 = .ok (.iload 5, 2) := by decide +kernel
theorem dX6_place_116 : decode cX6_place 116 = .ok (.iconst 1, 1) := by decide +kernel
theorem dX6_place_117 : decode cX6_place 117 = .ok (.iadd, 1) := by decide +kernel
theorem dX6_place_118 : decode cX6_place 118 = .ok (.invokestatic 47, 3) := by decide +kernel
theorem dX6_place_121 : decode cX6_place 121 = .ok (.iload 4, 2) := by decide +kernel
theorem dX6_place_123 : decode cX6_place 123 = .ok (.iload 6, 2) := by decide +kernel
theorem dX6_place_125 : decode cX6_place 125 = .ok (.isub, 1) := by decide +kernel
theorem dX6_place_126 : decode cX6_place 126 = .ok (.aload_n 0, 1) := by decide +kernel
theorem dX6_place_127 : decode cX6_place 127 = .ok (.getfield 24, 3) := by decide +kernel
theorem dX6_place_130 : decode cX6_place 130 = .ok (.iload 5, 2) := by decide +kernel
theorem dX6_place_132 : decode cX6_place 132 = .ok (.iaload, 1) := by decide +kernel
theorem dX6_place_133 : decode cX6_place 133 = .ok (.iadd, 1) := by decide +kernel
theorem dX6_place_134 : decode cX6_place 134 = .ok (.invokevirtual 36, 3) := by decide +kernel
theorem dX6_place_137 : decode cX6_place 137 = .ok (.aload_n 0, 1) := by decide +kernel
theorem dX6_place_138 : decode cX6_place 138 = .ok (.getfield 21, 3) := by decide +kernel
theorem dX6_place_141 : decode cX6_place 141 = .ok (.iload 5, 2) := by decide +kernel
theorem dX6_place_143 : decode cX6_place 143 = .ok (.dup2, 1) := by decide +kernel
theorem dX6_place_144 : decode cX6_place 144 = .ok (.iaload, 1) := by decide +kernel
theorem dX6_place_145 : decode cX6_place 145 = .ok (.iconst 1, 1) := by decide +kernel
theorem dX6_place_146 : decode cX6_place 146 = .ok (.iload_n 2, 1) := by decide +kernel
theorem dX6_place_147 : decode cX6_place 147 = .ok (.ishl, 1) := by decide +kernel
theorem dX6_place_148 : decode cX6_place 148 = .ok (.iconst (-1), 1) := by decide +kernel
theorem dX6_place_149 : decode cX6_place 149 = .ok (.ixor, 1) := by decide +kernel
theorem dX6_place_150 : decode cX6_place 150 = .ok (.iand, 1) := by decide +kernel
theorem dX6_place_151 : decode cX6_place 151 = .ok (.iastore, 1) := by decide +kernel
theorem dX6_place_152 : decode cX6_place 152 = .ok (.aload_n 0, 1) := by decide +kernel
theorem dX6_place_153 : decode cX6_place 153 = .ok (.getfield 24, 3) := by decide +kernel
theorem dX6_place_156 : decode cX6_place 156 = .ok (.iload 5, 2) := by decide +kernel
theorem dX6_place_158 : decode cX6_place 158 = .ok (.iload 6, 2) := by decide +kernel
theorem dX6_place_160 : decode cX6_place 160 = .ok (.iastore, 1) := by decide +kernel
theorem dX6_place_161 : decode cX6_place 161 = .ok (.iinc 5 1, 3) := by decide +kernel
theorem dX6_place_164 : decode cX6_place 164 = .ok (.goto (-136), 3) := by decide +kernel
theorem dX6_place_167 : decode cX6_place 167 = .ok (.return_, 1) := by decide +kernel
theorem dX6_keep_0 : decode cX6_keep 0 = .ok (.aload_n 0, 1) := by decide +kernel
theorem dX6_keep_1 : decode cX6_keep 1 = .ok (.iload_n 1, 1) := by decide +kernel
theorem dX6_keep_2 : decode cX6_keep 2 = .ok (.putfield 27, 3) := by decide +kernel
theorem dX6_keep_5 : decode cX6_keep 5 = .ok (.iconst 0, 1) := by decide +kernel
theorem dX6_keep_6 : decode cX6_keep 6 = .ok (.istore_n 2, 1) := by decide +kernel
theorem dX6_keep_7 : decode cX6_keep 7 = .ok (.iload_n 2, 1) := by decide +kernel
theorem dX6_keep_8 : decode cX6_keep 8 = .ok (.bipush 6, 2) := by decide +kernel
theorem dX6_keep_10 : decode cX6_keep 10 = .ok (.if_icmp .ge 21, 3) := by decide +kernel
theorem dX6_keep_13 : decode cX6_keep 13 = .ok (.aload_n 0, 1) := by decide +kernel
theorem dX6_keep_14 : decode cX6_keep 14 = .ok (.getfield 15, 3) := by decide +kernel
theorem dX6_keep_17 : decode cX6_keep 17 = .ok (.iload_n 2, 1) := by decide +kernel
theorem dX6_keep_18 : decode cX6_keep 18 = .ok (.aload_n 0, 1) := by decide +kernel
theorem dX6_keep_19 : decode cX6_keep 19 = .ok (.getfield 18, 3) := by decide +kernel
theorem dX6_keep_22 : decode cX6_keep 22 = .ok (.iload_n 2, 1) := by decide +kernel
theorem dX6_keep_23 : decode cX6_keep 23 = .ok (.iaload, 1) := by decide +kernel
theorem dX6_keep_24 : decode cX6_keep 24 = .ok (.iastore, 1) := by decide +kernel
theorem dX6_keep_25 : decode cX6_keep 25 = .ok (.iinc 2 1, 3) := by decide +kernel
theorem dX6_keep_28 : decode cX6_keep 28 = .ok (.goto (-21), 3) := by decide +kernel
theorem dX6_keep_31 : decode cX6_keep 31 = .ok (.return_, 1) := by decide +kernel
theorem dX7_init_0 : decode cX7_init 0 = .ok (.aload_n 0, 1) := by decide +kernel
theorem dX7_init_1 : decode cX7_init 1 = .ok (.invokespecial 3, 3) := by decide +kernel
theorem dX7_init_4 : decode cX7_init 4 = .ok (.aload_n 0, 1) := by decide +kernel
theorem dX7_init_5 : decode cX7_init 5 = .ok (.bipush 60, 2) := by decide +kernel
theorem dX7_init_7 : decode cX7_init 7 = .ok (.newarray .int, 2) := by decide +kernel
theorem dX7_init_9 : decode cX7_init 9 = .ok (.putfield 9, 3) := by decide +kernel
theorem dX7_init_12 : decode cX7_init 12 = .ok (.aload_n 0, 1) := by decide +kernel
theorem dX7_init_13 : decode cX7_init 13 = .ok (.iconst (-1), 1) := by decide +kernel
theorem dX7_init_14 : decode cX7_init 14 = .ok (.putfield 15, 3) := by decide +kernel
theorem dX7_init_17 : decode cX7_init 17 = .ok (.return_, 1) := by decide +kernel
theorem dX7_isNothing_0 : decode cX7_isNothing 0 = .ok (.aload_n 0, 1) := by decide +kernel
theorem dX7_isNothing_1 : decode cX7_isNothing 1 = .ok (.getfield 15, 3) := by decide +kernel
theorem dX7_isNothing_4 : decode cX7_isNothing 4 = .ok (.iconst (-1), 1) := by decide +kernel
theorem dX7_isNothing_5 : decode cX7_isNothing 5 = .ok (.if_icmp .ne 7, 3) := by decide +kernel
theorem dX7_isNothing_8 : decode cX7_isNothing 8 = .ok (.iconst 1, 1) := by decide +kernel
theorem dX7_isNothing_9 : decode cX7_isNothing 9 = .ok (.goto 4, 3) := by decide +kernel
theorem dX7_isNothing_12 : decode cX7_isNothing 12 = .ok (.iconst 0, 1) := by decide +kernel
theorem dX7_isNothing_13 : decode cX7_isNothing 13 = .ok (.ireturn, 1) := by decide +kernel
theorem dX7_makeNew_0 : decode cX7_makeNew 0 = .ok (.aload_n 0, 1) := by decide +kernel
theorem dX7_makeNew_1 : decode cX7_makeNew 1 = .ok (.iload_n 1, 1) := by decide +kernel
theorem dX7_makeNew_2 : decode cX7_makeNew 2 = .ok (.putfield 19, 3) := by decide +kernel
theorem dX7_makeNew_5 : decode cX7_makeNew 5 = .ok (.aload_n 0, 1) := by decide +kernel
theorem dX7_makeNew_6 : decode cX7_makeNew 6 = .ok (.iload_n 2, 1) := by decide +kernel
theorem dX7_makeNew_7 : decode cX7_makeNew 7 = .ok (.putfield 15, 3) := by decide +kernel
theorem dX7_makeNew_10 : decode cX7_makeNew 10 = .ok (.iconst 0, 1) := by decide +kernel
theorem dX7_makeNew_11 : decode cX7_makeNew 11 = .ok (.istore_n 3, 1) := by decide +kernel
theorem dX7_makeNew_12 : decode cX7_makeNew 12 = .ok (.iload_n 3, 1) := by decide +kernel
theorem dX7_makeNew_13 : decode cX7_makeNew 13 = .ok (.bipush 60, 2) := by decide +kernel
theorem dX7_makeNew_15 : decode cX7_makeNew 15 = .ok (.if_icmp .ge 16, 3) := by decide +kernel
theorem dX7_makeNew_18 : decode cX7_makeNew 18 = .ok (.aload_n 0, 1) := by decide +kernel
theorem dX7_makeNew_19 : decode cX7_makeNew 19 = .ok (.getfield 9, 3) := by decide +kernel
theorem dX7_makeNew_22 : decode cX7_makeNew 22 = .ok (.iload_n 3, 1) := by decide +kernel
theorem dX7_makeNew_23 : decode cX7_makeNew 23 = .ok (.iconst 0, 1) := by decide +kernel
theorem dX7_makeNew_24 : decode cX7_makeNew 24 = .ok (.iastore, 1) := by decide +kernel
theorem dX7_makeNew_25 : decode cX7_makeNew 25 = .ok (.iinc 3 1, 3) := by decide +kernel
theorem dX7_makeNew_28 : decode cX7_makeNew 28 = .ok (.goto (-16), 3) := by decide +kernel
theorem dX7_makeNew_31 : decode cX7_makeNew 31 = .ok (.return_, 1) := by decide +kernel
theorem dX7_put_0 : decode cX7_put 0 = .ok (.aload_n 0, 1) := by decide +kernel
theorem dX7_put_1 : decode cX7_put 1 = .ok (.getfield 19, 3) := by decide +kernel
theorem dX7_put_4 : decode cX7_put 4 = .ok (.ifCond .ne 14, 3) := by decide +kernel
theorem dX7_put_7 : decode cX7_put 7 = .ok (.aload_n 0, 1) := by decide +kernel
theorem dX7_put_8 : decode cX7_put 8 = .ok (.getfield 9, 3) := by decide +kernel
theorem dX7_put_11 : decode cX7_put 11 = .ok (.iload_n 1, 1) := by decide +kernel
theorem dX7_put_12 : decode cX7_put 12 = .ok (.iload_n 2, 1) := by decide +kernel
theorem dX7_put_13 : decode cX7_put 13 = .ok (.i2b, 1) := by decide +kernel
theorem dX7_put_14 : decode cX7_put 14 = .ok (.iastore, 1) := by decide +kernel
theorem dX7_put_15 : decode cX7_put 15 = .ok (.goto 29, 3) := by decide +kernel
theorem dX7_put_18 : decode cX7_put 18 = .ok (.aload_n 0, 1) := by decide +kernel
theorem dX7_put_19 : decode cX7_put 19 = .ok (.getfield 19, 3) := by decide +kernel
theorem dX7_put_22 : decode cX7_put 22 = .ok (.iconst 1, 1) := by decide +kernel
theorem dX7_put_23 : decode cX7_put 23 = .ok (.if_icmp .ne 14, 3) := by decide +kernel
theorem dX7_put_26 : decode cX7_put 26 = .ok (.aload_n 0, 1) := by decide +kernel
theorem dX7_put_27 : decode cX7_put 27 = .ok (.getfield 9, 3) := by decide +kernel
theorem dX7_put_30 : decode cX7_put 30 = .ok (.iload_n 1, 1) := by decide +kernel
theorem dX7_put_31 : decode cX7_put 31 = .ok (.iload_n 2, 1) := by decide +kernel
theorem dX7_put_32 : decode cX7_put 32 = .ok (.i2s, 1) := by decide +kernel
theorem dX7_put_33 : decode cX7_put 33 = .ok (.iastore, 1) := by decide +kernel
theorem dX7_put_34 : decode cX7_put 34 = .ok (.goto 10, 3) := by decide +kernel
theorem dX7_put_37 : decode cX7_put 37 = .ok (.aload_n 0, 1) := by decide +kernel
theorem dX7_put_38 : decode cX7_put 38 = .ok (.getfield 9, 3) := by decide +kernel
theorem dX7_put_41 : decode cX7_put 41 = .ok (.iload_n 1, 1) := by decide +kernel
theorem dX7_put_42 : decode cX7_put 42 = .ok (.iload_n 2, 1) := by decide +kernel
theorem dX7_put_43 : decode cX7_put 43 = .ok (.iastore, 1) := by decide +kernel
theorem dX7_put_44 : decode cX7_put 44 = .ok (.return_, 1) := by decide +kernel
theorem dX7_holdsCall_0 : decode cX7_holdsCall 0 = .ok (.iload_n 1, 1) := by decide +kernel
theorem dX7_holdsCall_1 : decode cX7_holdsCall 1 = .ok (.ifCond .lt 21, 3) := by decide +kernel
theorem dX7_holdsCall_4 : decode cX7_holdsCall 4 = .ok (.iload_n 1, 1) := by decide +kernel
theorem dX7_holdsCall_5 : decode cX7_holdsCall 5 = .ok (.aload_n 0, 1) := by decide +kernel
theorem dX7_holdsCall_6 : decode cX7_holdsCall 6 = .ok (.getfield 15, 3) := by decide +kernel
theorem dX7_holdsCall_9 : decode cX7_holdsCall 9 = .ok (.iconst 3, 1) := by decide +kernel
theorem dX7_holdsCall_10 : decode cX7_holdsCall 10 = .ok (.iload_n 2, 1) := by decide +kernel
theorem dX7_holdsCall_11 : decode cX7_holdsCall 11 = .ok (.iconst 1, 1) := by decide +kernel
theorem dX7_holdsCall_12 : decode cX7_holdsCall 12 = .ok (.iadd, 1) := by decide +kernel
theorem dX7_holdsCall_13 : decode cX7_holdsCall 13 = .ok (.imul, 1) := by decide +kernel
theorem dX7_holdsCall_14 : decode cX7_holdsCall 14 = .ok (.isub, 1) := by decide +kernel
theorem dX7_holdsCall_15 : decode cX7_holdsCall 15 = .ok (.if_icmp .gt 7, 3) := by decide +kernel
theorem dX7_holdsCall_18 : decode cX7_holdsCall 18 = .ok (.iconst 1, 1) := by decide +kernel
theorem dX7_holdsCall_19 : decode cX7_holdsCall 19 = .ok (.goto 4, 3) := by decide +kernel
theorem dX7_holdsCall_22 : decode cX7_holdsCall 22 = .ok (.iconst 0, 1) := by decide +kernel
theorem dX7_holdsCall_23 : decode cX7_holdsCall 23 = .ok (.ireturn, 1) := by decide +kernel
theorem dX8_init_0 : decode cX8_init 0 = .ok (.aload_n 0, 1) := by decide +kernel
theorem dX8_init_1 : decode cX8_init 1 = .ok (.invokespecial 3, 3) := by decide +kernel
theorem dX8_init_4 : decode cX8_init 4 = .ok (.aload_n 0, 1) := by decide +kernel
theorem dX8_init_5 : decode cX8_init 5 = .ok (.bipush 6, 2) := by decide +kernel
theorem dX8_init_7 : decode cX8_init 7 = .ok (.newarray .int, 2) := by decide +kernel
theorem dX8_init_9 : decode cX8_init 9 = .ok (.putfield 9, 3) := by decide +kernel
theorem dX8_init_12 : decode cX8_init 12 = .ok (.aload_n 0, 1) := by decide +kernel
theorem dX8_init_13 : decode cX8_init 13 = .ok (.bipush 6, 2) := by decide +kernel
theorem dX8_init_15 : decode cX8_init 15 = .ok (.newarray .int, 2) := by decide +kernel
theorem dX8_init_17 : decode cX8_init 17 = .ok (.putfield 15, 3) := by decide +kernel
theorem dX8_init_20 : decode cX8_init 20 = .ok (.aload_n 0, 1) := by decide +kernel
theorem dX8_init_21 : decode cX8_init 21 = .ok (.bipush 6, 2) := by decide +kernel
theorem dX8_init_23 : decode cX8_init 23 = .ok (.newarray .int, 2) := by decide +kernel
theorem dX8_init_25 : decode cX8_init 25 = .ok (.putfield 18, 3) := by decide +kernel
theorem dX8_init_28 : decode cX8_init 28 = .ok (.aload_n 0, 1) := by decide +kernel
theorem dX8_init_29 : decode cX8_init 29 = .ok (.bipush 6, 2) := by decide +kernel
theorem dX8_init_31 : decode cX8_init 31 = .ok (.newarray .int, 2) := by decide +kernel
theorem dX8_init_33 : decode cX8_init 33 = .ok (.putfield 21, 3) := by decide +kernel
theorem dX8_init_36 : decode cX8_init 36 = .ok (.return_, 1) := by decide +kernel
theorem dX8_add_0 : decode cX8_add 0 = .ok (.aload_n 0, 1) := by decide +kernel
theorem dX8_add_1 : decode cX8_add 1 = .ok (.getfield 9, 3) := by decide +kernel
theorem dX8_add_4 : decode cX8_add 4 = .ok (.aload_n 0, 1) := by decide +kernel
theorem dX8_add_5 : decode cX8_add 5 = .ok (.getfield 24, 3) := by decide +kernel
theorem dX8_add_8 : decode cX8_add 8 = .ok (.iload_n 1, 1) := by decide +kernel
theorem dX8_add_9 : decode cX8_add 9 = .ok (.iastore, 1) := by decide +kernel
theorem dX8_add_10 : decode cX8_add 10 = .ok (.aload_n 0, 1) := by decide +kernel
theorem dX8_add_11 : decode cX8_add 11 = .ok (.getfield 15, 3) := by decide +kernel
theorem dX8_add_14 : decode cX8_add 14 = .ok (.aload_n 0, 1) := by decide +kernel
theorem dX8_add_15 : decode cX8_add 15 = .ok (.getfield 24, 3) := by decide +kernel
theorem dX8_add_18 : decode cX8_add 18 = .ok (.iload_n 2, 1) := by decide +kernel
theorem dX8_add_19 : decode cX8_add 19 = .ok (.iastore, 1) := by decide +kernel
theorem dX8_add_20 : decode cX8_add 20 = .ok (.aload_n 0, 1) := by decide +kernel
theorem dX8_add_21 : decode cX8_add 21 = .ok (.getfield 18, 3) := by decide +kernel
theorem dX8_add_24 : decode cX8_add 24 = .ok (.aload_n 0, 1) := by decide +kernel
theorem dX8_add_25 : decode cX8_add 25 = .ok (.getfield 24, 3) := by decide +kernel
theorem dX8_add_28 : decode cX8_add 28 = .ok (.iload_n 3, 1) := by decide +kernel
theorem dX8_add_29 : decode cX8_add 29 = .ok (.iastore, 1) := by decide +kernel
theorem dX8_add_30 : decode cX8_add 30 = .ok (.aload_n 0, 1) := by decide +kernel
theorem dX8_add_31 : decode cX8_add 31 = .ok (.dup, 1) := by decide +kernel
theorem dX8_add_32 : decode cX8_add 32 = .ok (.getfield 24, 3) := by decide +kernel
theorem dX8_add_35 : decode cX8_add 35 = .ok (.iconst 1, 1) := by decide +kernel
theorem dX8_add_36 : decode cX8_add 36 = .ok (.iadd, 1) := by decide +kernel
theorem dX8_add_37 : decode cX8_add 37 = .ok (.putfield 24, 3) := by decide +kernel
theorem dX8_add_40 : decode cX8_add 40 = .ok (.aload_n 0, 1) := by decide +kernel
theorem dX8_add_41 : decode cX8_add 41 = .ok (.getfield 24, 3) := by decide +kernel
theorem dX8_add_44 : decode cX8_add 44 = .ok (.iconst 1, 1) := by decide +kernel
theorem dX8_add_45 : decode cX8_add 45 = .ok (.isub, 1) := by decide +kernel
theorem dX8_add_46 : decode cX8_add 46 = .ok (.ireturn, 1) := by decide +kernel
theorem dX8_setApart_0 : decode cX8_setApart 0 = .ok (.iload_n 3, 1) := by decide +kernel
theorem dX8_setApart_1 : decode cX8_setApart 1 = .ok (.ifCond .eq 30, 3) := by decide +kernel
theorem dX8_setApart_4 : decode cX8_setApart 4 = .ok (.aload_n 0, 1) := by decide +kernel
theorem dX8_setApart_5 : decode cX8_setApart 5 = .ok (.getfield 21, 3) := by decide +kernel
theorem dX8_setApart_8 : decode cX8_setApart 8 = .ok (.iload_n 1, 1) := by decide +kernel
theorem dX8_setApart_9 : decode cX8_setApart 9 = .ok (.dup2, 1) := by decide +kernel
theorem dX8_setApart_10 : decode cX8_setApart 10 = .ok (.iaload, 1) := by decide +kernel
theorem dX8_setApart_11 : decode cX8_setApart 11 = .ok (.iconst 1, 1) := by decide +kernel
theorem dX8_setApart_12 : decode cX8_setApart 12 = .ok (.iload_n 2, 1) := by decide +kernel
theorem dX8_setApart_13 : decode cX8_setApart 13 = .ok (.ishl, 1) := by decide +kernel
theorem dX8_setApart_14 : decode cX8_setApart 14 = .ok (.ior, 1) := by decide +kernel
theorem dX8_setApart_15 : decode cX8_setApart 15 = .ok (.iastore, 1) := by decide +kernel
theorem dX8_setApart_16 : decode cX8_setApart 16 = .ok (.aload_n 0, 1) := by decide +kernel
theorem dX8_setApart_17 : decode cX8_setApart 17 = .ok (.getfield 21, 3) := by decide +kernel
theorem dX8_setApart_20 : decode cX8_setApart 20 = .ok (.iload_n 2, 1) := by decide +kernel
theorem dX8_setApart_21 : decode cX8_setApart 21 = .ok (.dup2, 1) := by decide +kernel
theorem dX8_setApart_22 : decode cX8_setApart 22 = .ok (.iaload, 1) := by decide +kernel
theorem dX8_setApart_23 : decode cX8_setApart 23 = .ok (.iconst 1, 1) := by decide +kernel
theorem dX8_setApart_24 : decode cX8_setApart 24 = .ok (.iload_n 1, 1) := by decide +kernel
theorem dX8_setApart_25 : decode cX8_setApart 25 = .ok (.ishl, 1) := by decide +kernel
theorem dX8_setApart_26 : decode cX8_setApart 26 = .ok (.ior, 1) := by decide +kernel
theorem dX8_setApart_27 : decode cX8_setApart 27 = .ok (.iastore, 1) := by decide +kernel
theorem dX8_setApart_28 : decode cX8_setApart 28 = .ok (.goto 31, 3) := by decide +kernel
theorem dX8_setApart_31 : decode cX8_setApart 31 = .ok (.aload_n 0, 1) := by decide +kernel
theorem dX8_setApart_32 : decode cX8_setApart 32 = .ok (.getfield 21, 3) := by decide +kernel
theorem dX8_setApart_35 : decode cX8_setApart 35 = .ok (.iload_n 1, 1) := by decide +kernel
theorem dX8_setApart_36 : decode cX8_setApart 36 = .ok (.dup2, 1) := by decide +kernel
theorem dX8_setApart_37 : decode cX8_setApart 37 = .ok (.iaload, 1) := by decide +kernel
theorem dX8_setApart_38 : decode cX8_setApart 38 = .ok (.iconst 1, 1) := by decide +kernel
theorem dX8_setApart_39 : decode cX8_setApart 39 = .ok (.iload_n 2, 1) := by decide +kernel
theorem dX8_setApart_40 : decode cX8_setApart 40 = .ok (.ishl, 1) := by decide +kernel
theorem dX8_setApart_41 : decode cX8_setApart 41 = .ok (.iconst (-1), 1) := by decide +kernel
theorem dX8_setApart_42 : decode cX8_setApart 42 = .ok (.ixor, 1) := by decide +kernel
theorem dX8_setApart_43 : decode cX8_setApart 43 = .ok (.iand, 1) := by decide +kernel
theorem dX8_setApart_44 : decode cX8_setApart 44 = .ok (.iastore, 1) := by decide +kernel
theorem dX8_setApart_45 : decode cX8_setApart 45 = .ok (.aload_n 0, 1) := by decide +kernel
theorem dX8_setApart_46 : decode cX8_setApart 46 = .ok (.getfield 21, 3) := by decide +kernel
theorem dX8_setApart_49 : decode cX8_setApart 49 = .ok (.iload_n 2, 1) := by decide +kernel
theorem dX8_setApart_50 : decode cX8_setApart 50 = .ok (.dup2, 1) := by decide +kernel
theorem dX8_setApart_51 : decode cX8_setApart 51 = .ok (.iaload, 1) := by decide +kernel
theorem dX8_setApart_52 : decode cX8_setApart 52 = .ok (.iconst 1, 1) := by decide +kernel
theorem dX8_setApart_53 : decode cX8_setApart 53 = .ok (.iload_n 1, 1) := by decide +kernel
theorem dX8_setApart_54 : decode cX8_setApart 54 = .ok (.ishl, 1) := by decide +kernel
theorem dX8_setApart_55 : decode cX8_setApart 55 = .ok (.iconst (-1), 1) := by decide +kernel
theorem dX8_setApart_56 : decode cX8_setApart 56 = .ok (.ixor, 1) := by decide +kernel
theorem dX8_setApart_57 : decode cX8_setApart 57 = .ok (.iand, 1) := by decide +kernel
theorem dX8_setApart_58 : decode cX8_setApart 58 = .ok (.iastore, 1) := by decide +kernel
theorem dX8_setApart_59 : decode cX8_setApart 59 = .ok (.return_, 1) := by decide +kernel
theorem dX9_init_0 : decode cX9_init 0 = .ok (.aload_n 0, 1) := by decide +kernel
theorem dX9_init_1 : decode cX9_init 1 = .ok (.invokespecial 3, 3) := by decide +kernel
theorem dX9_init_4 : decode cX9_init 4 = .ok (.aload_n 0, 1) := by decide +kernel
theorem dX9_init_5 : decode cX9_init 5 = .ok (.bipush 40, 2) := by decide +kernel
theorem dX9_init_7 : decode cX9_init 7 = .ok (.newarray .int, 2) := by decide +kernel
theorem dX9_init_9 : decode cX9_init 9 = .ok (.putfield 9, 3) := by decide +kernel
theorem dX9_init_12 : decode cX9_init 12 = .ok (.aload_n 0, 1) := by decide +kernel
theorem dX9_init_13 : decode cX9_init 13 = .ok (.bipush 40, 2) := by decide +kernel
theorem dX9_init_15 : decode cX9_init 15 = .ok (.newarray .int, 2) := by decide +kernel
theorem dX9_init_17 : decode cX9_init 17 = .ok (.putfield 15, 3) := by decide +kernel
theorem dX9_init_20 : decode cX9_init 20 = .ok (.aload_n 0, 1) := by decide +kernel
theorem dX9_init_21 : decode cX9_init 21 = .ok (.iconst (-1), 1) := by decide +kernel
theorem dX9_init_22 : decode cX9_init 22 = .ok (.putfield 18, 3) := by decide +kernel
theorem dX9_init_25 : decode cX9_init 25 = .ok (.return_, 1) := by decide +kernel
theorem dX9_begin_0 : decode cX9_begin 0 = .ok (.aload_n 0, 1) := by decide +kernel
theorem dX9_begin_1 : decode cX9_begin 1 = .ok (.iconst 0, 1) := by decide +kernel
theorem dX9_begin_2 : decode cX9_begin 2 = .ok (.putfield 22, 3) := by decide +kernel
theorem dX9_begin_5 : decode cX9_begin 5 = .ok (.aload_n 0, 1) := by decide +kernel
theorem dX9_begin_6 : decode cX9_begin 6 = .ok (.iconst 0, 1) := by decide +kernel
theorem dX9_begin_7 : decode cX9_begin 7 = .ok (.putfield 25, 3) := by decide +kernel
theorem dX9_begin_10 : decode cX9_begin 10 = .ok (.aload_n 0, 1) := by decide +kernel
theorem dX9_begin_11 : decode cX9_begin 11 = .ok (.iconst 0, 1) := by decide +kernel
theorem dX9_begin_12 : decode cX9_begin 12 = .ok (.putfield 28, 3) := by decide +kernel
theorem dX9_begin_15 : decode cX9_begin 15 = .ok (.aload_n 0, 1) := by decide +kernel
theorem dX9_begin_16 : decode cX9_begin 16 = .ok (.iconst 0, 1) := by decide +kernel
theorem dX9_begin_17 : decode cX9_begin 17 = .ok (.putfield 31, 3) := by decide +kernel
theorem dX9_begin_20 : decode cX9_begin 20 = .ok (.aload_n 0, 1) := by decide +kernel
theorem dX9_begin_21 : decode cX9_begin 21 = .ok (.iconst 0, 1) := by decide +kernel
theorem dX9_begin_22 : decode cX9_begin 22 = .ok (.putfield 34, 3) := by decide +kernel
theorem dX9_begin_25 : decode cX9_begin 25 = .ok (.aload_n 0, 1) := by decide +kernel
theorem dX9_begin_26 : decode cX9_begin 26 = .ok (.iload_n 1, 1) := by decide +kernel
theorem dX9_begin_27 : decode cX9_begin 27 = .ok (.putfield 18, 3) := by decide +kernel
theorem dX9_begin_30 : decode cX9_begin 30 = .ok (.return_, 1) := by decide +kernel
theorem dX9_push_0 : decode cX9_push 0 = .ok (.aload_n 0, 1) := by decide +kernel
theorem dX9_push_1 : decode cX9_push 1 = .ok (.getfield 9, 3) := by decide +kernel
theorem dX9_push_4 : decode cX9_push 4 = .ok (.aload_n 0, 1) := by decide +kernel
theorem dX9_push_5 : decode cX9_push 5 = .ok (.getfield 22, 3) := by decide +kernel
theorem dX9_push_8 : decode cX9_push 8 = .ok (.iload_n 1, 1) := by decide +kernel
theorem dX9_push_9 : decode cX9_push 9 = .ok (.iastore, 1) := by decide +kernel
theorem dX9_push_10 : decode cX9_push 10 = .ok (.aload_n 0, 1) := by decide +kernel
theorem dX9_push_11 : decode cX9_push 11 = .ok (.getfield 15, 3) := by decide +kernel
theorem dX9_push_14 : decode cX9_push 14 = .ok (.aload_n 0, 1) := by decide +kernel
theorem dX9_push_15 : decode cX9_push 15 = .ok (.getfield 22, 3) := by decide +kernel
theorem dX9_push_18 : decode cX9_push 18 = .ok (.iload_n 2, 1) := by decide +kernel
theorem dX9_push_19 : decode cX9_push 19 = .ok (.iastore, 1) := by decide +kernel
theorem dX9_push_20 : decode cX9_push 20 = .ok (.aload_n 0, 1) := by decide +kernel
theorem dX9_push_21 : decode cX9_push 21 = .ok (.dup, 1) := by decide +kernel
theorem dX9_push_22 : decode cX9_push 22 = .ok (.getfield 22, 3) := by decide +kernel
theorem dX9_push_25 : decode cX9_push 25 = .ok (.iconst 1, 1) := by decide +kernel
theorem dX9_push_26 : decode cX9_push 26 = .ok (.iadd, 1) := by decide +kernel
theorem dX9_push_27 : decode cX9_push 27 = .ok (.putfield 22, 3) := by decide +kernel
theorem dX9_push_30 : decode cX9_push 30 = .ok (.aload_n 0, 1) := by decide +kernel
theorem dX9_push_31 : decode cX9_push 31 = .ok (.dup, 1) := by decide +kernel
theorem dX9_push_32 : decode cX9_push 32 = .ok (.getfield 25, 3) := by decide +kernel
theorem dX9_push_35 : decode cX9_push 35 = .ok (.iload_n 2, 1) := by decide +kernel
theorem dX9_push_36 : decode cX9_push 36 = .ok (.iadd, 1) := by decide +kernel
theorem dX9_push_37 : decode cX9_push 37 = .ok (.putfield 25, 3) := by decide +kernel
theorem dX9_push_40 : decode cX9_push 40 = .ok (.aload_n 0, 1) := by decide +kernel
theorem dX9_push_41 : decode cX9_push 41 = .ok (.aload_n 0, 1) := by decide +kernel
theorem dX9_push_42 : decode cX9_push 42 = .ok (.getfield 28, 3) := by decide +kernel
theorem dX9_push_45 : decode cX9_push 45 = .ok (.aload_n 0, 1) := by decide +kernel
theorem dX9_push_46 : decode cX9_push 46 = .ok (.getfield 25, 3) := by decide +kernel
theorem dX9_push_49 : decode cX9_push 49 = .ok (.invokestatic 37, 3) := by decide +kernel
theorem dX9_push_52 : decode cX9_push 52 = .ok (.putfield 28, 3) := by decide +kernel
theorem dX9_push_55 : decode cX9_push 55 = .ok (.return_, 1) := by decide +kernel
theorem dX9_pop_0 : decode cX9_pop 0 = .ok (.aload_n 0, 1) := by decide +kernel
theorem dX9_pop_1 : decode cX9_pop 1 = .ok (.dup, 1) := by decide +kernel
theorem dX9_pop_2 : decode cX9_pop 2 = .ok (.getfield 22, 3) := by decide +kernel
theorem dX9_pop_5 : decode cX9_pop 5 = .ok (.iconst 1, 1) := by decide +kernel
theorem dX9_pop_6 : decode cX9_pop 6 = .ok (.isub, 1) := by decide +kernel
theorem dX9_pop_7 : decode cX9_pop 7 = .ok (.putfield 22, 3) := by decide +kernel
theorem dX9_pop_10 : decode cX9_pop 10 = .ok (.aload_n 0, 1) := by decide +kernel
theorem dX9_pop_11 : decode cX9_pop 11 = .ok (.dup, 1) := by decide +kernel
theorem dX9_pop_12 : decode cX9_pop 12 = .ok (.getfield 25, 3) := by decide +kernel
theorem dX9_pop_15 : decode cX9_pop 15 = .ok (.aload_n 0, 1) := by decide +kernel
theorem dX9_pop_16 : decode cX9_pop 16 = .ok (.getfield 15, 3) := by decide +kernel
theorem dX9_pop_19 : decode cX9_pop 19 = .ok (.aload_n 0, 1) := by decide +kernel
theorem dX9_pop_20 : decode cX9_pop 20 = .ok (.getfield 22, 3) := by decide +kernel
theorem dX9_pop_23 : decode cX9_pop 23 = .ok (.iaload, 1) := by decide +kernel
theorem dX9_pop_24 : decode cX9_pop 24 = .ok (.isub, 1) := by decide +kernel
theorem dX9_pop_25 : decode cX9_pop 25 = .ok (.putfield 25, 3) := by decide +kernel
theorem dX9_pop_28 : decode cX9_pop 28 = .ok (.return_, 1) := by decide +kernel
theorem dX9_onTop_0 : decode cX9_onTop 0 = .ok (.aload_n 0, 1) := by decide +kernel
theorem dX9_onTop_1 : decode cX9_onTop 1 = .ok (.getfield 9, 3) := by decide +kernel
theorem dX9_onTop_4 : decode cX9_onTop 4 = .ok (.aload_n 0, 1) := by decide +kernel
theorem dX9_onTop_5 : decode cX9_onTop 5 = .ok (.getfield 22, 3) := by decide +kernel
theorem dX9_onTop_8 : decode cX9_onTop 8 = .ok (.iconst 1, 1) := by decide +kernel
theorem dX9_onTop_9 : decode cX9_onTop 9 = .ok (.isub, 1) := by decide +kernel
theorem dX9_onTop_10 : decode cX9_onTop 10 = .ok (.iaload, 1) := by decide +kernel
theorem dX9_onTop_11 : decode cX9_onTop 11 = .ok (.ireturn, 1) := by decide +kernel
theorem dX9_markStep_0 : decode cX9_markStep 0 = .ok (.iload_n 1, 1) := by decide +kernel
theorem dX9_markStep_1 : decode cX9_markStep 1 = .ok (.ifCond .ne 13, 3) := by decide +kernel
theorem dX9_markStep_4 : decode cX9_markStep 4 = .ok (.aload_n 0, 1) := by decide +kernel
theorem dX9_markStep_5 : decode cX9_markStep 5 = .ok (.dup, 1) := by decide +kernel
theorem dX9_markStep_6 : decode cX9_markStep 6 = .ok (.getfield 31, 3) := by decide +kernel
theorem dX9_markStep_9 : decode cX9_markStep 9 = .ok (.iconst 1, 1) := by decide +kernel
theorem dX9_markStep_10 : decode cX9_markStep 10 = .ok (.iadd, 1) := by decide +kernel
theorem dX9_markStep_11 : decode cX9_markStep 11 = .ok (.putfield 31, 3) := by decide +kernel
theorem dX9_markStep_14 : decode cX9_markStep 14 = .ok (.return_, 1) := by decide +kernel
theorem dX9_howOften_0 : decode cX9_howOften 0 = .ok (.iconst 0, 1) := by decide +kernel
theorem dX9_howOften_1 : decode cX9_howOften 1 = .ok (.istore_n 2, 1) := by decide +kernel
theorem dX9_howOften_2 : decode cX9_howOften 2 = .ok (.iconst 0, 1) := by decide +kernel
theorem dX9_howOften_3 : decode cX9_howOften 3 = .ok (.istore_n 3, 1) := by decide +kernel
theorem dX9_howOften_4 : decode cX9_howOften 4 = .ok (.iload_n 3, 1) := by decide +kernel
theorem dX9_howOften_5 : decode cX9_howOften 5 = .ok (.aload_n 0, 1) := by decide +kernel
theorem dX9_howOften_6 : decode cX9_howOften 6 = .ok (.getfield 22, 3) := by decide +kernel
theorem dX9_howOften_9 : decode cX9_howOften 9 = .ok (.if_icmp .ge 22, 3) := by decide +kernel
theorem dX9_howOften_12 : decode cX9_howOften 12 = .ok (.aload_n 0, 1) := by decide +kernel
theorem dX9_howOften_13 : decode cX9_howOften 13 = .ok (.getfield 9, 3) := by decide +kernel
theorem dX9_howOften_16 : decode cX9_howOften 16 = .ok (.iload_n 3, 1) := by decide +kernel
theorem dX9_howOften_17 : decode cX9_howOften 17 = .ok (.iaload, 1) := by decide +kernel
theorem dX9_howOften_18 : decode cX9_howOften 18 = .ok (.iload_n 1, 1) := by decide +kernel
theorem dX9_howOften_19 : decode cX9_howOften 19 = .ok (.if_icmp .ne 6, 3) := by decide +kernel
theorem dX9_howOften_22 : decode cX9_howOften 22 = .ok (.iinc 2 1, 3) := by decide +kernel
theorem dX9_howOften_25 : decode cX9_howOften 25 = .ok (.iinc 3 1, 3) := by decide +kernel
theorem dX9_howOften_28 : decode cX9_howOften 28 = .ok (.goto (-24), 3) := by decide +kernel
theorem dX9_howOften_31 : decode cX9_howOften 31 = .ok (.iload_n 2, 1) := by decide +kernel
theorem dX9_howOften_32 : decode cX9_howOften 32 = .ok (.ireturn, 1) := by decide +kernel
theorem dJ6_bitCount_0f7a4_0 : decode cJ6_bitCount_0f7a4 0 = .ok (.iload_n 0, 1) := by decide +kernel
theorem dJ6_bitCount_0f7a4_1 : decode cJ6_bitCount_0f7a4 1 = .ok (.iload_n 0, 1) := by decide +kernel
theorem dJ6_bitCount_0f7a4_2 : decode cJ6_bitCount_0f7a4 2 = .ok (.iconst 1, 1) := by decide +kernel
theorem dJ6_bitCount_0f7a4_3 : decode cJ6_bitCount_0f7a4 3 = .ok (.iushr, 1) := by decide +kernel
theorem dJ6_bitCount_0f7a4_4 : decode cJ6_bitCount_0f7a4 4 = .ok (.ldc_w 265, 3) := by decide +kernel
theorem dJ6_bitCount_0f7a4_7 : decode cJ6_bitCount_0f7a4 7 = .ok (.iand, 1) := by decide +kernel
theorem dJ6_bitCount_0f7a4_8 : decode cJ6_bitCount_0f7a4 8 = .ok (.isub, 1) := by decide +kernel
theorem dJ6_bitCount_0f7a4_9 : decode cJ6_bitCount_0f7a4 9 = .ok (.istore_n 0, 1) := by decide +kernel
theorem dJ6_bitCount_0f7a4_10 : decode cJ6_bitCount_0f7a4 10 = .ok (.iload_n 0, 1) := by decide +kernel
theorem dJ6_bitCount_0f7a4_11 : decode cJ6_bitCount_0f7a4 11 = .ok (.ldc_w 266, 3) := by decide +kernel
theorem dJ6_bitCount_0f7a4_14 : decode cJ6_bitCount_0f7a4 14 = .ok (.iand, 1) := by decide +kernel
theorem dJ6_bitCount_0f7a4_15 : decode cJ6_bitCount_0f7a4 15 = .ok (.iload_n 0, 1) := by decide +kernel
theorem dJ6_bitCount_0f7a4_16 : decode cJ6_bitCount_0f7a4 16 = .ok (.iconst 2, 1) := by decide +kernel
theorem dJ6_bitCount_0f7a4_17 : decode cJ6_bitCount_0f7a4 17 = .ok (.iushr, 1) := by decide +kernel
theorem dJ6_bitCount_0f7a4_18 : decode cJ6_bitCount_0f7a4 18 = .ok (.ldc_w 266, 3) := by decide +kernel
theorem dJ6_bitCount_0f7a4_21 : decode cJ6_bitCount_0f7a4 21 = .ok (.iand, 1) := by decide +kernel
theorem dJ6_bitCount_0f7a4_22 : decode cJ6_bitCount_0f7a4 22 = .ok (.iadd, 1) := by decide +kernel
theorem dJ6_bitCount_0f7a4_23 : decode cJ6_bitCount_0f7a4 23 = .ok (.istore_n 0, 1) := by decide +kernel
theorem dJ6_bitCount_0f7a4_24 : decode cJ6_bitCount_0f7a4 24 = .ok (.iload_n 0, 1) := by decide +kernel
theorem dJ6_bitCount_0f7a4_25 : decode cJ6_bitCount_0f7a4 25 = .ok (.iload_n 0, 1) := by decide +kernel
theorem dJ6_bitCount_0f7a4_26 : decode cJ6_bitCount_0f7a4 26 = .ok (.iconst 4, 1) := by decide +kernel
theorem dJ6_bitCount_0f7a4_27 : decode cJ6_bitCount_0f7a4 27 = .ok (.iushr, 1) := by decide +kernel
theorem dJ6_bitCount_0f7a4_28 : decode cJ6_bitCount_0f7a4 28 = .ok (.iadd, 1) := by decide +kernel
theorem dJ6_bitCount_0f7a4_29 : decode cJ6_bitCount_0f7a4 29 = .ok (.ldc_w 267, 3) := by decide +kernel
theorem dJ6_bitCount_0f7a4_32 : decode cJ6_bitCount_0f7a4 32 = .ok (.iand, 1) := by decide +kernel
theorem dJ6_bitCount_0f7a4_33 : decode cJ6_bitCount_0f7a4 33 = .ok (.istore_n 0, 1) := by decide +kernel
theorem dJ6_bitCount_0f7a4_34 : decode cJ6_bitCount_0f7a4 34 = .ok (.iload_n 0, 1) := by decide +kernel
theorem dJ6_bitCount_0f7a4_35 : decode cJ6_bitCount_0f7a4 35 = .ok (.iload_n 0, 1) := by decide +kernel
theorem dJ6_bitCount_0f7a4_36 : decode cJ6_bitCount_0f7a4 36 = .ok (.bipush 8, 2) := by decide +kernel
theorem dJ6_bitCount_0f7a4_38 : decode cJ6_bitCount_0f7a4 38 = .ok (.iushr, 1) := by decide +kernel
theorem dJ6_bitCount_0f7a4_39 : decode cJ6_bitCount_0f7a4 39 = .ok (.iadd, 1) := by decide +kernel
theorem dJ6_bitCount_0f7a4_40 : decode cJ6_bitCount_0f7a4 40 = .ok (.istore_n 0, 1) := by decide +kernel
theorem dJ6_bitCount_0f7a4_41 : decode cJ6_bitCount_0f7a4 41 = .ok (.iload_n 0, 1) := by decide +kernel
theorem dJ6_bitCount_0f7a4_42 : decode cJ6_bitCount_0f7a4 42 = .ok (.iload_n 0, 1) := by decide +kernel
theorem dJ6_bitCount_0f7a4_43 : decode cJ6_bitCount_0f7a4 43 = .ok (.bipush 16, 2) := by decide +kernel
theorem dJ6_bitCount_0f7a4_45 : decode cJ6_bitCount_0f7a4 45 = .ok (.iushr, 1) := by decide +kernel
theorem dJ6_bitCount_0f7a4_46 : decode cJ6_bitCount_0f7a4 46 = .ok (.iadd, 1) := by decide +kernel
theorem dJ6_bitCount_0f7a4_47 : decode cJ6_bitCount_0f7a4 47 = .ok (.istore_n 0, 1) := by decide +kernel
theorem dJ6_bitCount_0f7a4_48 : decode cJ6_bitCount_0f7a4 48 = .ok (.iload_n 0, 1) := by decide +kernel
theorem dJ6_bitCount_0f7a4_49 : decode cJ6_bitCount_0f7a4 49 = .ok (.bipush 63, 2) := by decide +kernel
theorem dJ6_bitCount_0f7a4_51 : decode cJ6_bitCount_0f7a4 51 = .ok (.iand, 1) := by decide +kernel
theorem dJ6_bitCount_0f7a4_52 : decode cJ6_bitCount_0f7a4 52 = .ok (.ireturn, 1) := by decide +kernel
theorem dJ9_max_7cf53_0 : decode cJ9_max_7cf53 0 = .ok (.iload_n 0, 1) := by decide +kernel
theorem dJ9_max_7cf53_1 : decode cJ9_max_7cf53 1 = .ok (.iload_n 1, 1) := by decide +kernel
theorem dJ9_max_7cf53_2 : decode cJ9_max_7cf53 2 = .ok (.if_icmp .lt 7, 3) := by decide +kernel
theorem dJ9_max_7cf53_5 : decode cJ9_max_7cf53 5 = .ok (.iload_n 0, 1) := by decide +kernel
theorem dJ9_max_7cf53_6 : decode cJ9_max_7cf53 6 = .ok (.goto 4, 3) := by decide +kernel
theorem dJ9_max_7cf53_9 : decode cJ9_max_7cf53 9 = .ok (.iload_n 1, 1) := by decide +kernel
theorem dJ9_max_7cf53_10 : decode cJ9_max_7cf53 10 = .ok (.ireturn, 1) := by decide +kernel
theorem dJ9_min_7cf53_0 : decode cJ9_min_7cf53 0 = .ok (.iload_n 0, 1) := by decide +kernel
theorem dJ9_min_7cf53_1 : decode cJ9_min_7cf53 1 = .ok (.iload_n 1, 1) := by decide +kernel
theorem dJ9_min_7cf53_2 : decode cJ9_min_7cf53 2 = .ok (.if_icmp .gt 7, 3) := by decide +kernel
theorem dJ9_min_7cf53_5 : decode cJ9_min_7cf53 5 = .ok (.iload_n 0, 1) := by decide +kernel
theorem dJ9_min_7cf53_6 : decode cJ9_min_7cf53 6 = .ok (.goto 4, 3) := by decide +kernel
theorem dJ9_min_7cf53_9 : decode cJ9_min_7cf53 9 = .ok (.iload_n 1, 1) := by decide +kernel
theorem dJ9_min_7cf53_10 : decode cJ9_min_7cf53 10 = .ok (.ireturn, 1) := by decide +kernel
