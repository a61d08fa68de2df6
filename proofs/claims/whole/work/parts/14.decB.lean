theorem dX10_init_0 : decode cX10_init 0 = .ok (.aload_n 0, 1) := by decide +kernel
theorem dX10_init_1 : decode cX10_init 1 = .ok (.invokespecial 1, 3) := by decide +kernel
theorem dX10_init_4 : decode cX10_init 4 = .ok (.aload_n 0, 1) := by decide +kernel
theorem dX10_init_5 : decode cX10_init 5 = .ok (.new 7, 3) := by decide +kernel
theorem dX10_init_8 : decode cX10_init 8 = .ok (.dup, 1) := by decide +kernel
theorem dX10_init_9 : decode cX10_init 9 = .ok (.invokespecial 9, 3) := by decide +kernel
theorem dX10_init_12 : decode cX10_init 12 = .ok (.putfield 10, 3) := by decide +kernel
theorem dX10_init_15 : decode cX10_init 15 = .ok (.aload_n 0, 1) := by decide +kernel
theorem dX10_init_16 : decode cX10_init 16 = .ok (.new 16, 3) := by decide +kernel
theorem dX10_init_19 : decode cX10_init 19 = .ok (.dup, 1) := by decide +kernel
theorem dX10_init_20 : decode cX10_init 20 = .ok (.invokespecial 18, 3) := by decide +kernel
theorem dX10_init_23 : decode cX10_init 23 = .ok (.putfield 19, 3) := by decide +kernel
theorem dX10_init_26 : decode cX10_init 26 = .ok (.aload_n 0, 1) := by decide +kernel
theorem dX10_init_27 : decode cX10_init 27 = .ok (.new 23, 3) := by decide +kernel
theorem dX10_init_30 : decode cX10_init 30 = .ok (.dup, 1) := by decide +kernel
theorem dX10_init_31 : decode cX10_init 31 = .ok (.invokespecial 25, 3) := by decide +kernel
theorem dX10_init_34 : decode cX10_init 34 = .ok (.putfield 26, 3) := by decide +kernel
theorem dX10_init_37 : decode cX10_init 37 = .ok (.aload_n 0, 1) := by decide +kernel
theorem dX10_init_38 : decode cX10_init 38 = .ok (.new 30, 3) := by decide +kernel
theorem dX10_init_41 : decode cX10_init 41 = .ok (.dup, 1) := by decide +kernel
theorem dX10_init_42 : decode cX10_init 42 = .ok (.aload_n 0, 1) := by decide +kernel
theorem dX10_init_43 : decode cX10_init 43 = .ok (.getfield 10, 3) := by decide +kernel
theorem dX10_init_46 : decode cX10_init 46 = .ok (.aload_n 0, 1) := by decide +kernel
theorem dX10_init_47 : decode cX10_init 47 = .ok (.getfield 19, 3) := by decide +kernel
theorem dX10_init_50 : decode cX10_init 50 = .ok (.aload_n 0, 1) := by decide +kernel
theorem dX10_init_51 : decode cX10_init 51 = .ok (.getfield 26, 3) := by decide +kernel
theorem dX10_init_54 : decode cX10_init 54 = .ok (.invokespecial 32, 3) := by decide +kernel
theorem dX10_init_57 : decode cX10_init 57 = .ok (.putfield 35, 3) := by decide +kernel
theorem dX10_init_60 : decode cX10_init 60 = .ok (.aload_n 0, 1) := by decide +kernel
theorem dX10_init_61 : decode cX10_init 61 = .ok (.new 39, 3) := by decide +kernel
theorem dX10_init_64 : decode cX10_init 64 = .ok (.dup, 1) := by decide +kernel
theorem dX10_init_65 : decode cX10_init 65 = .ok (.aload_n 0, 1) := by decide +kernel
theorem dX10_init_66 : decode cX10_init 66 = .ok (.getfield 10, 3) := by decide +kernel
theorem dX10_init_69 : decode cX10_init 69 = .ok (.aload_n 0, 1) := by decide +kernel
theorem dX10_init_70 : decode cX10_init 70 = .ok (.getfield 35, 3) := by decide +kernel
theorem dX10_init_73 : decode cX10_init 73 = .ok (.invokespecial 41, 3) := by decide +kernel
theorem dX10_init_76 : decode cX10_init 76 = .ok (.putfield 44, 3) := by decide +kernel
theorem dX10_init_79 : decode cX10_init 79 = .ok (.aload_n 0, 1) := by decide +kernel
theorem dX10_init_80 : decode cX10_init 80 = .ok (.new 48, 3) := by decide +kernel
theorem dX10_init_83 : decode cX10_init 83 = .ok (.dup, 1) := by decide +kernel
theorem dX10_init_84 : decode cX10_init 84 = .ok (.invokespecial 50, 3) := by decide +kernel
theorem dX10_init_87 : decode cX10_init 87 = .ok (.putfield 51, 3) := by decide +kernel
theorem dX10_init_90 : decode cX10_init 90 = .ok (.aload_n 0, 1) := by decide +kernel
theorem dX10_init_91 : decode cX10_init 91 = .ok (.new 55, 3) := by decide +kernel
theorem dX10_init_94 : decode cX10_init 94 = .ok (.dup, 1) := by decide +kernel
theorem dX10_init_95 : decode cX10_init 95 = .ok (.invokespecial 57, 3) := by decide +kernel
theorem dX10_init_98 : decode cX10_init 98 = .ok (.putfield 58, 3) := by decide +kernel
theorem dX10_init_101 : decode cX10_init 101 = .ok (.aload_n 0, 1) := by decide +kernel
theorem dX10_init_102 : decode cX10_init 102 = .ok (.new 62, 3) := by decide +kernel
theorem dX10_init_105 : decode cX10_init 105 = .ok (.dup, 1) := by decide +kernel
theorem dX10_init_106 : decode cX10_init 106 = .ok (.invokespecial 64, 3) := by decide +kernel
theorem dX10_init_109 : decode cX10_init 109 = .ok (.putfield 65, 3) := by decide +kernel
theorem dX10_init_112 : decode cX10_init 112 = .ok (.aload_n 0, 1) := by decide +kernel
theorem dX10_init_113 : decode cX10_init 113 = .ok (.new 69, 3) := by decide +kernel
theorem dX10_init_116 : decode cX10_init 116 = .ok (.dup, 1) := by decide +kernel
theorem dX10_init_117 : decode cX10_init 117 = .ok (.invokespecial 71, 3) := by decide +kernel
theorem dX10_init_120 : decode cX10_init 120 = .ok (.putfield 72, 3) := by decide +kernel
theorem dX10_init_123 : decode cX10_init 123 = .ok (.aload_n 0, 1) := by decide +kernel
theorem dX10_init_124 : decode cX10_init 124 = .ok (.iconst 4, 1) := by decide +kernel
theorem dX10_init_125 : decode cX10_init 125 = .ok (.anewarray 76, 3) := by decide +kernel
theorem dX10_init_128 : decode cX10_init 128 = .ok (.putfield 78, 3) := by decide +kernel
theorem dX10_init_131 : decode cX10_init 131 = .ok (.iconst 0, 1) := by decide +kernel
theorem dX10_init_132 : decode cX10_init 132 = .ok (.istore_n 1, 1) := by decide +kernel
theorem dX10_init_133 : decode cX10_init 133 = .ok (.iload_n 1, 1) := by decide +kernel
theorem dX10_init_134 : decode cX10_init 134 = .ok (.iconst 4, 1) := by decide +kernel
theorem dX10_init_135 : decode cX10_init 135 = .ok (.if_icmp .ge 22, 3) := by decide +kernel
theorem dX10_init_138 : decode cX10_init 138 = .ok (.aload_n 0, 1) := by decide +kernel
theorem dX10_init_139 : decode cX10_init 139 = .ok (.getfield 78, 3) := by decide +kernel
theorem dX10_init_142 : decode cX10_init 142 = .ok (.iload_n 1, 1) := by decide +kernel
theorem dX10_init_143 : decode cX10_init 143 = .ok (.new 76, 3) := by decide +kernel
theorem dX10_init_146 : decode cX10_init 146 = .ok (.dup, 1) := by decide +kernel
theorem dX10_init_147 : decode cX10_init 147 = .ok (.invokespecial 82, 3) := by decide +kernel
theorem dX10_init_150 : decode cX10_init 150 = .ok (.aastore, 1) := by decide +kernel
theorem dX10_init_151 : decode cX10_init 151 = .ok (.iinc 1 1, 3) := by decide +kernel
theorem dX10_init_154 : decode cX10_init 154 = .ok (.goto (-21), 3) := by decide +kernel
theorem dX10_init_157 : decode cX10_init 157 = .ok (.return_, 1) := by decide +kernel
theorem dX10_routine_0 : decode cX10_routine 0 = .ok (.iload_n 1, 1) := by decide +kernel
theorem dX10_routine_1 : decode cX10_routine 1 = .ok (.iconst 0, 1) := by decide +kernel
theorem dX10_routine_2 : decode cX10_routine 2 = .ok (.sipush 500, 3) := by decide +kernel
theorem dX10_routine_5 : decode cX10_routine 5 = .ok (.invokestatic 83, 3) := by decide +kernel
theorem dX10_routine_8 : decode cX10_routine 8 = .ok (.ifCond .ne 5, 3) := by decide +kernel
theorem dX10_routine_11 : decode cX10_routine 11 = .ok (.iconst (-1), 1) := by decide +kernel
theorem dX10_routine_12 : decode cX10_routine 12 = .ok (.ireturn, 1) := by decide +kernel
theorem dX10_routine_13 : decode cX10_routine 13 = .ok (.aload_n 0, 1) := by decide +kernel
theorem dX10_routine_14 : decode cX10_routine 14 = .ok (.getfield 10, 3) := by decide +kernel
theorem dX10_routine_17 : decode cX10_routine 17 = .ok (.getfield 87, 3) := by decide +kernel
theorem dX10_routine_20 : decode cX10_routine 20 = .ok (.bipush 20, 2) := by decide +kernel
theorem dX10_routine_22 : decode cX10_routine 22 = .ok (.if_icmp .lt 6, 3) := by decide +kernel
theorem dX10_routine_25 : decode cX10_routine 25 = .ok (.bipush (-3), 2) := by decide +kernel
theorem dX10_routine_27 : decode cX10_routine 27 = .ok (.ireturn, 1) := by decide +kernel
theorem dX10_routine_28 : decode cX10_routine 28 = .ok (.aload_n 0, 1) := by decide +kernel
theorem dX10_routine_29 : decode cX10_routine 29 = .ok (.getfield 35, 3) := by decide +kernel
theorem dX10_routine_32 : decode cX10_routine 32 = .ok (.invokevirtual 91, 3) := by decide +kernel
theorem dX10_routine_35 : decode cX10_routine 35 = .ok (.aload_n 0, 1) := by decide +kernel
theorem dX10_routine_36 : decode cX10_routine 36 = .ok (.getfield 10, 3) := by decide +kernel
theorem dX10_routine_39 : decode cX10_routine 39 = .ok (.iload_n 1, 1) := by decide +kernel
theorem dX10_routine_40 : decode cX10_routine 40 = .ok (.invokevirtual 94, 3) := by decide +kernel
theorem dX10_routine_43 : decode cX10_routine 43 = .ok (.ireturn, 1) := by decide +kernel
theorem dX10_frame_0 : decode cX10_frame 0 = .ok (.aload_n 0, 1) := by decide +kernel
theorem dX10_frame_1 : decode cX10_frame 1 = .ok (.iload_n 1, 1) := by decide +kernel
theorem dX10_frame_2 : decode cX10_frame 2 = .ok (.invokevirtual 98, 3) := by decide +kernel
theorem dX10_frame_5 : decode cX10_frame 5 = .ok (.ifCond .eq 14, 3) := by decide +kernel
theorem dX10_frame_8 : decode cX10_frame 8 = .ok (.iload_n 2, 1) := by decide +kernel
theorem dX10_frame_9 : decode cX10_frame 9 = .ok (.iconst 0, 1) := by decide +kernel
theorem dX10_frame_10 : decode cX10_frame 10 = .ok (.sipush 500, 3) := by decide +kernel
theorem dX10_frame_13 : decode cX10_frame 13 = .ok (.invokestatic 83, 3) := by decide +kernel
theorem dX10_frame_16 : decode cX10_frame 16 = .ok (.ifCond .ne 5, 3) := by decide +kernel
theorem dX10_frame_19 : decode cX10_frame 19 = .ok (.iconst (-1), 1) := by decide +kernel
theorem dX10_frame_20 : decode cX10_frame 20 = .ok (.ireturn, 1) := by decide +kernel
theorem dX10_frame_21 : decode cX10_frame 21 = .ok (.aload_n 0, 1) := by decide +kernel
theorem dX10_frame_22 : decode cX10_frame 22 = .ok (.getfield 10, 3) := by decide +kernel
theorem dX10_frame_25 : decode cX10_frame 25 = .ok (.getfield 102, 3) := by decide +kernel
theorem dX10_frame_28 : decode cX10_frame 28 = .ok (.iload_n 1, 1) := by decide +kernel
theorem dX10_frame_29 : decode cX10_frame 29 = .ok (.iaload, 1) := by decide +kernel
theorem dX10_frame_30 : decode cX10_frame 30 = .ok (.istore_n 3, 1) := by decide +kernel
theorem dX10_frame_31 : decode cX10_frame 31 = .ok (.aload_n 0, 1) := by decide +kernel
theorem dX10_frame_32 : decode cX10_frame 32 = .ok (.getfield 10, 3) := by decide +kernel
theorem dX10_frame_35 : decode cX10_frame 35 = .ok (.getfield 102, 3) := by decide +kernel
theorem dX10_frame_38 : decode cX10_frame 38 = .ok (.iload_n 1, 1) := by decide +kernel
theorem dX10_frame_39 : decode cX10_frame 39 = .ok (.iload_n 2, 1) := by decide +kernel
theorem dX10_frame_40 : decode cX10_frame 40 = .ok (.iastore, 1) := by decide +kernel
theorem dX10_frame_41 : decode cX10_frame 41 = .ok (.iload_n 3, 1) := by decide +kernel
theorem dX10_frame_42 : decode cX10_frame 42 = .ok (.ireturn, 1) := by decide +kernel
theorem dX10_turns_0 : decode cX10_turns 0 = .ok (.aload_n 0, 1) := by decide +kernel
theorem dX10_turns_1 : decode cX10_turns 1 = .ok (.iload_n 1, 1) := by decide +kernel
theorem dX10_turns_2 : decode cX10_turns 2 = .ok (.invokevirtual 98, 3) := by decide +kernel
theorem dX10_turns_5 : decode cX10_turns 5 = .ok (.ifCond .eq 13, 3) := by decide +kernel
theorem dX10_turns_8 : decode cX10_turns 8 = .ok (.iload_n 2, 1) := by decide +kernel
theorem dX10_turns_9 : decode cX10_turns 9 = .ok (.iconst 0, 1) := by decide +kernel
theorem dX10_turns_10 : decode cX10_turns 10 = .ok (.bipush 20, 2) := by decide +kernel
theorem dX10_turns_12 : decode cX10_turns 12 = .ok (.invokestatic 83, 3) := by decide +kernel
theorem dX10_turns_15 : decode cX10_turns 15 = .ok (.ifCond .ne 5, 3) := by decide +kernel
theorem dX10_turns_18 : decode cX10_turns 18 = .ok (.iconst (-1), 1) := by decide +kernel
theorem dX10_turns_19 : decode cX10_turns 19 = .ok (.ireturn, 1) := by decide +kernel
theorem dX10_turns_20 : decode cX10_turns 20 = .ok (.aload_n 0, 1) := by decide +kernel
theorem dX10_turns_21 : decode cX10_turns 21 = .ok (.getfield 10, 3) := by decide +kernel
theorem dX10_turns_24 : decode cX10_turns 24 = .ok (.getfield 106, 3) := by decide +kernel
theorem dX10_turns_27 : decode cX10_turns 27 = .ok (.iload_n 1, 1) := by decide +kernel
theorem dX10_turns_28 : decode cX10_turns 28 = .ok (.iaload, 1) := by decide +kernel
theorem dX10_turns_29 : decode cX10_turns 29 = .ok (.istore_n 3, 1) := by decide +kernel
theorem dX10_turns_30 : decode cX10_turns 30 = .ok (.aload_n 0, 1) := by decide +kernel
theorem dX10_turns_31 : decode cX10_turns 31 = .ok (.getfield 10, 3) := by decide +kernel
theorem dX10_turns_34 : decode cX10_turns 34 = .ok (.getfield 106, 3) := by decide +kernel
theorem dX10_turns_37 : decode cX10_turns 37 = .ok (.iload_n 1, 1) := by decide +kernel
theorem dX10_turns_38 : decode cX10_turns 38 = .ok (.iload_n 2, 1) := by decide +kernel
theorem dX10_turns_39 : decode cX10_turns 39 = .ok (.iastore, 1) := by decide +kernel
theorem dX10_turns_40 : decode cX10_turns 40 = .ok (.iload_n 3, 1) := by decide +kernel
theorem dX10_turns_41 : decode cX10_turns 41 = .ok (.ireturn, 1) := by decide +kernel
theorem dX10_call_0 : decode cX10_call 0 = .ok (.iload_n 3, 1) := by decide +kernel
theorem dX10_call_1 : decode cX10_call 1 = .ok (.iload 4, 2) := by decide +kernel
theorem dX10_call_3 : decode cX10_call 3 = .ok (.invokestatic 109, 3) := by decide +kernel
theorem dX10_call_6 : decode cX10_call 6 = .ok (.istore 5, 2) := by decide +kernel
theorem dX10_call_8 : decode cX10_call 8 = .ok (.aload_n 0, 1) := by decide +kernel
theorem dX10_call_9 : decode cX10_call 9 = .ok (.iload_n 1, 1) := by decide +kernel
theorem dX10_call_10 : decode cX10_call 10 = .ok (.iload_n 2, 1) := by decide +kernel
theorem dX10_call_11 : decode cX10_call 11 = .ok (.iload 5, 2) := by decide +kernel
theorem dX10_call_13 : decode cX10_call 13 = .ok (.invokevirtual 113, 3) := by decide +kernel
theorem dX10_call_16 : decode cX10_call 16 = .ok (.istore 6, 2) := by decide +kernel
theorem dX10_call_18 : decode cX10_call 18 = .ok (.iload 6, 2) := by decide +kernel
theorem dX10_call_20 : decode cX10_call 20 = .ok (.ifCond .eq 6, 3) := by decide +kernel
theorem dX10_call_23 : decode cX10_call 23 = .ok (.iload 6, 2) := by decide +kernel
theorem dX10_call_25 : decode cX10_call 25 = .ok (.ireturn, 1) := by decide +kernel
theorem dX10_call_26 : decode cX10_call 26 = .ok (.aload_n 0, 1) := by decide +kernel
theorem dX10_call_27 : decode cX10_call 27 = .ok (.getfield 26, 3) := by decide +kernel
theorem dX10_call_30 : decode cX10_call 30 = .ok (.iload_n 1, 1) := by decide +kernel
theorem dX10_call_31 : decode cX10_call 31 = .ok (.iload_n 2, 1) := by decide +kernel
theorem dX10_call_32 : decode cX10_call 32 = .ok (.iload 5, 2) := by decide +kernel
theorem dX10_call_34 : decode cX10_call 34 = .ok (.invokevirtual 117, 3) := by decide +kernel
theorem dX10_call_37 : decode cX10_call 37 = .ok (.aload_n 0, 1) := by decide +kernel
theorem dX10_call_38 : decode cX10_call 38 = .ok (.getfield 35, 3) := by decide +kernel
theorem dX10_call_41 : decode cX10_call 41 = .ok (.invokevirtual 91, 3) := by decide +kernel
theorem dX10_call_44 : decode cX10_call 44 = .ok (.aload_n 0, 1) := by decide +kernel
theorem dX10_call_45 : decode cX10_call 45 = .ok (.getfield 26, 3) := by decide +kernel
theorem dX10_call_48 : decode cX10_call 48 = .ok (.getfield 120, 3) := by decide +kernel
theorem dX10_call_51 : decode cX10_call 51 = .ok (.ireturn, 1) := by decide +kernel
theorem dX10_cut_0 : decode cX10_cut 0 = .ok (.iload_n 3, 1) := by decide +kernel
theorem dX10_cut_1 : decode cX10_cut 1 = .ok (.iload 4, 2) := by decide +kernel
theorem dX10_cut_3 : decode cX10_cut 3 = .ok (.invokestatic 109, 3) := by decide +kernel
theorem dX10_cut_6 : decode cX10_cut 6 = .ok (.istore 5, 2) := by decide +kernel
theorem dX10_cut_8 : decode cX10_cut 8 = .ok (.aload_n 0, 1) := by decide +kernel
theorem dX10_cut_9 : decode cX10_cut 9 = .ok (.iload_n 1, 1) := by decide +kernel
theorem dX10_cut_10 : decode cX10_cut 10 = .ok (.iload_n 2, 1) := by decide +kernel
theorem dX10_cut_11 : decode cX10_cut 11 = .ok (.iload 5, 2) := by decide +kernel
theorem dX10_cut_13 : decode cX10_cut 13 = .ok (.invokevirtual 121, 3) := by decide +kernel
theorem dX10_cut_16 : decode cX10_cut 16 = .ok (.ifCond .ne 5, 3) := by decide +kernel
theorem dX10_cut_19 : decode cX10_cut 19 = .ok (.iconst (-1), 1) := by decide +kernel
theorem dX10_cut_20 : decode cX10_cut 20 = .ok (.ireturn, 1) := by decide +kernel
theorem dX10_cut_21 : decode cX10_cut 21 = .ok (.aload_n 0, 1) := by decide +kernel
theorem dX10_cut_22 : decode cX10_cut 22 = .ok (.getfield 26, 3) := by decide +kernel
theorem dX10_cut_25 : decode cX10_cut 25 = .ok (.iload_n 1, 1) := by decide +kernel
theorem dX10_cut_26 : decode cX10_cut 26 = .ok (.iload_n 2, 1) := by decide +kernel
theorem dX10_cut_27 : decode cX10_cut 27 = .ok (.iload 5, 2) := by decide +kernel
theorem dX10_cut_29 : decode cX10_cut 29 = .ok (.invokevirtual 124, 3) := by decide +kernel
theorem dX10_cut_32 : decode cX10_cut 32 = .ok (.ifCond .ne 6, 3) := by decide +kernel
theorem dX10_cut_35 : decode cX10_cut 35 = .ok (.bipush (-2), 2) := by decide +kernel
theorem dX10_cut_37 : decode cX10_cut 37 = .ok (.ireturn, 1) := by decide +kernel
theorem dX10_cut_38 : decode cX10_cut 38 = .ok (.aload_n 0, 1) := by decide +kernel
theorem dX10_cut_39 : decode cX10_cut 39 = .ok (.getfield 26, 3) := by decide +kernel
theorem dX10_cut_42 : decode cX10_cut 42 = .ok (.iload_n 1, 1) := by decide +kernel
theorem dX10_cut_43 : decode cX10_cut 43 = .ok (.iload_n 2, 1) := by decide +kernel
theorem dX10_cut_44 : decode cX10_cut 44 = .ok (.iload 5, 2) := by decide +kernel
theorem dX10_cut_46 : decode cX10_cut 46 = .ok (.invokevirtual 127, 3) := by decide +kernel
theorem dX10_cut_49 : decode cX10_cut 49 = .ok (.aload_n 0, 1) := by decide +kernel
theorem dX10_cut_50 : decode cX10_cut 50 = .ok (.getfield 35, 3) := by decide +kernel
theorem dX10_cut_53 : decode cX10_cut 53 = .ok (.invokevirtual 91, 3) := by decide +kernel
theorem dX10_cut_56 : decode cX10_cut 56 = .ok (.aload_n 0, 1) := by decide +kernel
theorem dX10_cut_57 : decode cX10_cut 57 = .ok (.getfield 26, 3) := by decide +kernel
theorem dX10_cut_60 : decode cX10_cut 60 = .ok (.getfield 120, 3) := by decide +kernel
theorem dX10_cut_63 : decode cX10_cut 63 = .ok (.ireturn, 1) := by decide +kernel
theorem dX10_take_0 : decode cX10_take 0 = .ok (.iload_n 1, 1) := by decide +kernel
theorem dX10_take_1 : decode cX10_take 1 = .ok (.invokestatic 130, 3) := by decide +kernel
theorem dX10_take_4 : decode cX10_take 4 = .ok (.ifCond .eq 11, 3) := by decide +kernel
theorem dX10_take_7 : decode cX10_take 7 = .ok (.aload_n 0, 1) := by decide +kernel
theorem dX10_take_8 : decode cX10_take 8 = .ok (.iload_n 2, 1) := by decide +kernel
theorem dX10_take_9 : decode cX10_take 9 = .ok (.invokevirtual 98, 3) := by decide +kernel
theorem dX10_take_12 : decode cX10_take 12 = .ok (.ifCond .ne 5, 3) := by decide +kernel
theorem dX10_take_15 : decode cX10_take 15 = .ok (.iconst (-1), 1) := by decide +kernel
theorem dX10_take_16 : decode cX10_take 16 = .ok (.ireturn, 1) := by decide +kernel
theorem dX10_take_17 : decode cX10_take 17 = .ok (.aload_n 0, 1) := by decide +kernel
theorem dX10_take_18 : decode cX10_take 18 = .ok (.getfield 19, 3) := by decide +kernel
theorem dX10_take_21 : decode cX10_take 21 = .ok (.getfield 133, 3) := by decide +kernel
theorem dX10_take_24 : decode cX10_take 24 = .ok (.iload_n 1, 1) := by decide +kernel
theorem dX10_take_25 : decode cX10_take 25 = .ok (.iaload, 1) := by decide +kernel
theorem dX10_take_26 : decode cX10_take 26 = .ok (.iload_n 2, 1) := by decide +kernel
theorem dX10_take_27 : decode cX10_take 27 = .ok (.invokestatic 136, 3) := by decide +kernel
theorem dX10_take_30 : decode cX10_take 30 = .ok (.ifCond .eq 6, 3) := by decide +kernel
theorem dX10_take_33 : decode cX10_take 33 = .ok (.bipush (-2), 2) := by decide +kernel
theorem dX10_take_35 : decode cX10_take 35 = .ok (.ireturn, 1) := by decide +kernel
theorem dX10_take_36 : decode cX10_take 36 = .ok (.aload_n 0, 1) := by decide +kernel
theorem dX10_take_37 : decode cX10_take 37 = .ok (.getfield 19, 3) := by decide +kernel
theorem dX10_take_40 : decode cX10_take 40 = .ok (.iload_n 1, 1) := by decide +kernel
theorem dX10_take_41 : decode cX10_take 41 = .ok (.iload_n 2, 1) := by decide +kernel
theorem dX10_take_42 : decode cX10_take 42 = .ok (.invokevirtual 140, 3) := by decide +kernel
theorem dX10_take_45 : decode cX10_take 45 = .ok (.aload_n 0, 1) := by decide +kernel
theorem dX10_take_46 : decode cX10_take 46 = .ok (.getfield 35, 3) := by decide +kernel
theorem dX10_take_49 : decode cX10_take 49 = .ok (.invokevirtual 91, 3) := by decide +kernel
theorem dX10_take_52 : decode cX10_take 52 = .ok (.iconst 1, 1) := by decide +kernel
theorem dX10_take_53 : decode cX10_take 53 = .ok (.ireturn, 1) := by decide +kernel
theorem dX10_flow_0 : decode cX10_flow 0 = .ok (.iload_n 1, 1) := by decide +kernel
theorem dX10_flow_1 : decode cX10_flow 1 = .ok (.invokestatic 130, 3) := by decide +kernel
theorem dX10_flow_4 : decode cX10_flow 4 = .ok (.ifCond .eq 10, 3) := by decide +kernel
theorem dX10_flow_7 : decode cX10_flow 7 = .ok (.iload_n 2, 1) := by decide +kernel
theorem dX10_flow_8 : decode cX10_flow 8 = .ok (.invokestatic 130, 3) := by decide +kernel
theorem dX10_flow_11 : decode cX10_flow 11 = .ok (.ifCond .ne 5, 3) := by decide +kernel
theorem dX10_flow_14 : decode cX10_flow 14 = .ok (.iconst (-1), 1) := by decide +kernel
theorem dX10_flow_15 : decode cX10_flow 15 = .ok (.ireturn, 1) := by decide +kernel
theorem dX10_flow_16 : decode cX10_flow 16 = .ok (.iload_n 1, 1) := by decide +kernel
theorem dX10_flow_17 : decode cX10_flow 17 = .ok (.iload_n 2, 1) := by decide +kernel
theorem dX10_flow_18 : decode cX10_flow 18 = .ok (.if_icmp .eq 19, 3) := by decide +kernel
theorem dX10_flow_21 : decode cX10_flow 21 = .ok (.aload_n 0, 1) := by decide +kernel
theorem dX10_flow_22 : decode cX10_flow 22 = .ok (.getfield 19, 3) := by decide +kernel
theorem dX10_flow_25 : decode cX10_flow 25 = .ok (.getfield 144, 3) := by decide +kernel
theorem dX10_flow_28 : decode cX10_flow 28 = .ok (.iload_n 1, 1) := by decide +kernel
theorem dX10_flow_29 : decode cX10_flow 29 = .ok (.iaload, 1) := by decide +kernel
theorem dX10_flow_30 : decode cX10_flow 30 = .ok (.iload_n 2, 1) := by decide +kernel
theorem dX10_flow_31 : decode cX10_flow 31 = .ok (.invokestatic 136, 3) := by decide +kernel
theorem dX10_flow_34 : decode cX10_flow 34 = .ok (.ifCond .eq 6, 3) := by decide +kernel
theorem dX10_flow_37 : decode cX10_flow 37 = .ok (.bipush (-2), 2) := by decide +kernel
theorem dX10_flow_39 : decode cX10_flow 39 = .ok (.ireturn, 1) := by decide +kernel
theorem dX10_flow_40 : decode cX10_flow 40 = .ok (.aload_n 0, 1) := by decide +kernel
theorem dX10_flow_41 : decode cX10_flow 41 = .ok (.getfield 19, 3) := by decide +kernel
theorem dX10_flow_44 : decode cX10_flow 44 = .ok (.iload_n 1, 1) := by decide +kernel
theorem dX10_flow_45 : decode cX10_flow 45 = .ok (.iload_n 2, 1) := by decide +kernel
theorem dX10_flow_46 : decode cX10_flow 46 = .ok (.invokevirtual 147, 3) := by decide +kernel
theorem dX10_flow_49 : decode cX10_flow 49 = .ok (.aload_n 0, 1) := by decide +kernel
theorem dX10_flow_50 : decode cX10_flow 50 = .ok (.getfield 35, 3) := by decide +kernel
theorem dX10_flow_53 : decode cX10_flow 53 = .ok (.invokevirtual 91, 3) := by decide +kernel
theorem dX10_flow_56 : decode cX10_flow 56 = .ok (.iconst 1, 1) := by decide +kernel
theorem dX10_flow_57 : decode cX10_flow 57 = .ok (.ireturn, 1) := by decide +kernel
theorem dX10_goals_0 : decode cX10_goals 0 = .ok (.iload_n 1, 1) := by decide +kernel
theorem dX10_goals_1 : decode cX10_goals 1 = .ok (.invokestatic 130, 3) := by decide +kernel
theorem dX10_goals_4 : decode cX10_goals 4 = .ok (.ifCond .eq 15, 3) := by decide +kernel
theorem dX10_goals_7 : decode cX10_goals 7 = .ok (.aload_n 0, 1) := by decide +kernel
theorem dX10_goals_8 : decode cX10_goals 8 = .ok (.getfield 19, 3) := by decide +kernel
theorem dX10_goals_11 : decode cX10_goals 11 = .ok (.getfield 150, 3) := by decide +kernel
theorem dX10_goals_14 : decode cX10_goals 14 = .ok (.iload_n 1, 1) := by decide +kernel
theorem dX10_goals_15 : decode cX10_goals 15 = .ok (.iaload, 1) := by decide +kernel
theorem dX10_goals_16 : decode cX10_goals 16 = .ok (.goto 4, 3) := by decide +kernel
theorem dX10_goals_19 : decode cX10_goals 19 = .ok (.iconst (-1), 1) := by decide +kernel
theorem dX10_goals_20 : decode cX10_goals 20 = .ok (.ireturn, 1) := by decide +kernel
theorem dX10_about_0 : decode cX10_about 0 = .ok (.aload_n 0, 1) := by decide +kernel
theorem dX10_about_1 : decode cX10_about 1 = .ok (.iload_n 1, 1) := by decide +kernel
theorem dX10_about_2 : decode cX10_about 2 = .ok (.invokevirtual 98, 3) := by decide +kernel
theorem dX10_about_5 : decode cX10_about 5 = .ok (.ifCond .ne 5, 3) := by decide +kernel
theorem dX10_about_8 : decode cX10_about 8 = .ok (.iconst (-1), 1) := by decide +kernel
theorem dX10_about_9 : decode cX10_about 9 = .ok (.ireturn, 1) := by decide +kernel
theorem dX10_about_10 : decode cX10_about 10 = .ok (.aload_n 0, 1) := by decide +kernel
theorem dX10_about_11 : decode cX10_about 11 = .ok (.getfield 35, 3) := by decide +kernel
theorem dX10_about_14 : decode cX10_about 14 = .ok (.invokevirtual 153, 3) := by decide +kernel
theorem dX10_about_17 : decode cX10_about 17 = .ok (.iload_n 2, 1) := by decide +kernel
theorem dX10_about_18 : decode cX10_about 18 = .ok (.tableswitch 113 0 5 #[38, 48, 58, 78, 91, 104], 38) := by decide +kernel
theorem dX10_about_56 : decode cX10_about 56 = .ok (.aload_n 0, 1) := by decide +kernel
theorem dX10_about_57 : decode cX10_about 57 = .ok (.getfield 10, 3) := by decide +kernel
theorem dX10_about_60 : decode cX10_about 60 = .ok (.getfield 102, 3) := by decide +kernel
theorem dX10_about_63 : decode cX10_about 63 = .ok (.iload_n 1, 1) := by decide +kernel
theorem dX10_about_64 : decode cX10_about 64 = .ok (.iaload, 1) := by decide +kernel
theorem dX10_about_65 : decode cX10_about 65 = .ok (.ireturn, 1) := by decide +kernel
theorem dX10_about_66 : decode cX10_about 66 = .ok (.aload_n 0, 1) := by decide +kernel
theorem dX10_about_67 : decode cX10_about 67 = .ok (.getfield 10, 3) := by decide +kernel
theorem dX10_about_70 : decode cX10_about 70 = .ok (.getfield 106, 3) := by decide +kernel
theorem dX10_about_73 : decode cX10_about 73 = .ok (.iload_n 1, 1) := by decide +kernel
theorem dX10_about_74 : decode cX10_about 74 = .ok (.iaload, 1) := by decide +kernel
theorem dX10_about_75 : decode cX10_about 75 = .ok (.ireturn, 1) := by decide +kernel
theorem dX10_about_76 : decode cX10_about 76 = .ok (.aload_n 0, 1) := by decide +kernel
theorem dX10_about_77 : decode cX10_about 77 = .ok (.getfield 35, 3) := by decide +kernel
theorem dX10_about_80 : decode cX10_about 80 = .ok (.getfield 156, 3) := by decide +kernel
theorem dX10_about_83 : decode cX10_about 83 = .ok (.iload_n 1, 1) := by decide +kernel
theorem dX10_about_84 : decode cX10_about 84 = .ok (.invokestatic 136, 3) := by decide +kernel
theorem dX10_about_87 : decode cX10_about 87 = .ok (.ifCond .eq 7, 3) := by decide +kernel
theorem dX10_about_90 : decode cX10_about 90 = .ok (.iconst 1, 1) := by decide +kernel
theorem dX10_about_91 : decode cX10_about 91 = .ok (.goto 4, 3) := by decide +kernel
theorem dX10_about_94 : decode cX10_about 94 = .ok (.iconst 0, 1) := by decide +kernel
theorem dX10_about_95 : decode cX10_about 95 = .ok (.ireturn, 1) := by decide +kernel
theorem dX10_about_96 : decode cX10_about 96 = .ok (.aload_n 0, 1) := by decide +kernel
theorem dX10_about_97 : decode cX10_about 97 = .ok (.getfield 35, 3) := by decide +kernel
theorem dX10_about_100 : decode cX10_about 100 = .ok (.getfield 159, 3) := by decide +kernel
theorem dX10_about_103 : decode cX10_about 103 = .ok (.iload_n 1, 1) := by decide +kernel
theorem dX10_about_104 : decode cX10_about 104 = .ok (.iaload, 1) := by decide +kernel
theorem dX10_about_105 : decode cX10_about 105 = .ok (.invokestatic 162, 3) := by decide +kernel
theorem dX10_about_108 : decode cX10_about 108 = .ok (.ireturn, 1) := by decide +kernel
theorem dX10_about_109 : decode cX10_about 109 = .ok (.aload_n 0, 1) := by decide +kernel
theorem dX10_about_110 : decode cX10_about 110 = .ok (.getfield 35, 3) := by decide +kernel
theorem dX10_about_113 : decode cX10_about 113 = .ok (.getfield 165, 3) := by decide +kernel
theorem dX10_about_116 : decode cX10_about 116 = .ok (.iload_n 1, 1) := by decide +kernel
theorem dX10_about_117 : decode cX10_about 117 = .ok (.iaload, 1) := by decide +kernel
theorem dX10_about_118 : decode cX10_about 118 = .ok (.invokestatic 168, 3) := by decide +kernel
theorem dX10_about_121 : decode cX10_about 121 = .ok (.ireturn, 1) := by decide +kernel
theorem dX10_about_122 : decode cX10_about 122 = .ok (.aload_n 0, 1) := by decide +kernel
theorem dX10_about_123 : decode cX10_about 123 = .ok (.getfield 35, 3) := by decide +kernel
theorem dX10_about_126 : decode cX10_about 126 = .ok (.iload_n 1, 1) := by decide +kernel
theorem dX10_about_127 : decode cX10_about 127 = .ok (.invokevirtual 173, 3) := by decide +kernel
theorem dX10_about_130 : decode cX10_about 130 = .ok (.ireturn, 1) := by decide +kernel
theorem dX10_about_131 : decode cX10_about 131 = .ok (.iconst (-1), 1) := by decide +kernel
theorem dX10_about_132 : decode cX10_about 132 = .ok (.ireturn, 1) := by decide +kernel
theorem dX10_depth_0 : decode cX10_depth 0 = .ok (.aload_n 0, 1) := by decide +kernel
theorem dX10_depth_1 : decode cX10_depth 1 = .ok (.iload_n 1, 1) := by decide +kernel
theorem dX10_depth_2 : decode cX10_depth 2 = .ok (.invokevirtual 98, 3) := by decide +kernel
theorem dX10_depth_5 : decode cX10_depth 5 = .ok (.ifCond .ne 5, 3) := by decide +kernel
theorem dX10_depth_8 : decode cX10_depth 8 = .ok (.iconst (-1), 1) := by decide +kernel
theorem dX10_depth_9 : decode cX10_depth 9 = .ok (.ireturn, 1) := by decide +kernel
theorem dX10_depth_10 : decode cX10_depth 10 = .ok (.aload_n 0, 1) := by decide +kernel
theorem dX10_depth_11 : decode cX10_depth 11 = .ok (.getfield 44, 3) := by decide +kernel
theorem dX10_depth_14 : decode cX10_depth 14 = .ok (.iconst (-1), 1) := by decide +kernel
theorem dX10_depth_15 : decode cX10_depth 15 = .ok (.invokevirtual 176, 3) := by decide +kernel
theorem dX10_depth_18 : decode cX10_depth 18 = .ok (.aload_n 0, 1) := by decide +kernel
theorem dX10_depth_19 : decode cX10_depth 19 = .ok (.getfield 44, 3) := by decide +kernel
theorem dX10_depth_22 : decode cX10_depth 22 = .ok (.getfield 180, 3) := by decide +kernel
theorem dX10_depth_25 : decode cX10_depth 25 = .ok (.iload_n 1, 1) := by decide +kernel
theorem dX10_depth_26 : decode cX10_depth 26 = .ok (.iaload, 1) := by decide +kernel
theorem dX10_depth_27 : decode cX10_depth 27 = .ok (.ireturn, 1) := by decide +kernel
theorem dX10_way_0 : decode cX10_way 0 = .ok (.aload_n 0, 1) := by decide +kernel
theorem dX10_way_1 : decode cX10_way 1 = .ok (.iload_n 1, 1) := by decide +kernel
theorem dX10_way_2 : decode cX10_way 2 = .ok (.invokevirtual 98, 3) := by decide +kernel
theorem dX10_way_5 : decode cX10_way 5 = .ok (.ifCond .eq 7, 3) := by decide +kernel
theorem dX10_way_8 : decode cX10_way 8 = .ok (.iload_n 2, 1) := by decide +kernel
theorem dX10_way_9 : decode cX10_way 9 = .ok (.ifCond .ge 5, 3) := by decide +kernel
theorem dX10_way_12 : decode cX10_way 12 = .ok (.iconst (-1), 1) := by decide +kernel
theorem dX10_way_13 : decode cX10_way 13 = .ok (.ireturn, 1) := by decide +kernel
theorem dX10_way_14 : decode cX10_way 14 = .ok (.aload_n 0, 1) := by decide +kernel
theorem dX10_way_15 : decode cX10_way 15 = .ok (.getfield 35, 3) := by decide +kernel
theorem dX10_way_18 : decode cX10_way 18 = .ok (.invokevirtual 153, 3) := by decide +kernel
theorem dX10_way_21 : decode cX10_way 21 = .ok (.aload_n 0, 1) := by decide +kernel
theorem dX10_way_22 : decode cX10_way 22 = .ok (.getfield 35, 3) := by decide +kernel
theorem dX10_way_25 : decode cX10_way 25 = .ok (.iload_n 1, 1) := by decide +kernel
theorem dX10_way_26 : decode cX10_way 26 = .ok (.invokevirtual 183, 3) := by decide +kernel
theorem dX10_way_29 : decode cX10_way 29 = .ok (.aload_n 0, 1) := by decide +kernel
theorem dX10_way_30 : decode cX10_way 30 = .ok (.getfield 35, 3) := by decide +kernel
theorem dX10_way_33 : decode cX10_way 33 = .ok (.getfield 156, 3) := by decide +kernel
theorem dX10_way_36 : decode cX10_way 36 = .ok (.iand, 1) := by decide +kernel
theorem dX10_way_37 : decode cX10_way 37 = .ok (.ifCond .eq 6, 3) := by decide +kernel
theorem dX10_way_40 : decode cX10_way 40 = .ok (.bipush (-2), 2) := by decide +kernel
theorem dX10_way_42 : decode cX10_way 42 = .ok (.ireturn, 1) := by decide +kernel
theorem dX10_way_43 : decode cX10_way 43 = .ok (.aload_n 0, 1) := by decide +kernel
theorem dX10_way_44 : decode cX10_way 44 = .ok (.getfield 44, 3) := by decide +kernel
theorem dX10_way_47 : decode cX10_way 47 = .ok (.iconst (-1), 1) := by decide +kernel
theorem dX10_way_48 : decode cX10_way 48 = .ok (.invokevirtual 176, 3) := by decide +kernel
theorem dX10_way_51 : decode cX10_way 51 = .ok (.iload_n 2, 1) := by decide +kernel
theorem dX10_way_52 : decode cX10_way 52 = .ok (.bipush 20, 2) := by decide +kernel
theorem dX10_way_54 : decode cX10_way 54 = .ok (.invokestatic 186, 3) := by decide +kernel
theorem dX10_way_57 : decode cX10_way 57 = .ok (.istore_n 3, 1) := by decide +kernel
theorem dX10_way_58 : decode cX10_way 58 = .ok (.iload_n 1, 1) := by decide +kernel
theorem dX10_way_59 : decode cX10_way 59 = .ok (.istore 4, 2) := by decide +kernel
theorem dX10_way_61 : decode cX10_way 61 = .ok (.iconst 0, 1) := by decide +kernel
theorem dX10_way_62 : decode cX10_way 62 = .ok (.istore 5, 2) := by decide +kernel
theorem dX10_way_64 : decode cX10_way 64 = .ok (.iload 5, 2) := by decide +kernel
theorem dX10_way_66 : decode cX10_way 66 = .ok (.iload_n 3, 1) := by decide +kernel
theorem dX10_way_67 : decode cX10_way 67 = .ok (.if_icmp .ge 27, 3) := by decide +kernel
theorem dX10_way_70 : decode cX10_way 70 = .ok (.iload 4, 2) := by decide +kernel
theorem dX10_way_72 : decode cX10_way 72 = .ok (.bipush (-4), 2) := by decide +kernel
theorem dX10_way_74 : decode cX10_way 74 = .ok (.if_icmp .eq 20, 3) := by decide +kernel
theorem dX10_way_77 : decode cX10_way 77 = .ok (.aload_n 0, 1) := by decide +kernel
theorem dX10_way_78 : decode cX10_way 78 = .ok (.getfield 44, 3) := by decide +kernel
theorem dX10_way_81 : decode cX10_way 81 = .ok (.iload 4, 2) := by decide +kernel
theorem dX10_way_83 : decode cX10_way 83 = .ok (.invokevirtual 192, 3) := by decide +kernel
theorem dX10_way_86 : decode cX10_way 86 = .ok (.istore 4, 2) := by decide +kernel
theorem dX10_way_88 : decode cX10_way 88 = .ok (.iinc 5 1, 3) := by decide +kernel
theorem dX10_way_91 : decode cX10_way 91 = .ok (.goto (-27), 3) := by decide +kernel
theorem dX10_way_94 : decode cX10_way 94 = .ok (.iload 4, 2) := by decide +kernel
theorem dX10_way_96 : decode cX10_way 96 = .ok (.ireturn, 1) := by decide +kernel
theorem dX10_endless_0 : decode cX10_endless 0 = .ok (.aload_n 0, 1) := by decide +kernel
theorem dX10_endless_1 : decode cX10_endless 1 = .ok (.iload_n 1, 1) := by decide +kernel
theorem dX10_endless_2 : decode cX10_endless 2 = .ok (.invokevirtual 98, 3) := by decide +kernel
theorem dX10_endless_5 : decode cX10_endless 5 = .ok (.ifCond .ne 5, 3) := by decide +kernel
theorem dX10_endless_8 : decode cX10_endless 8 = .ok (.iconst (-1), 1) := by decide +kernel
theorem dX10_endless_9 : decode cX10_endless 9 = .ok (.ireturn, 1) := by decide +kernel
theorem dX10_endless_10 : decode cX10_endless 10 = .ok (.aload_n 0, 1) := by decide +kernel
theorem dX10_endless_11 : decode cX10_endless 11 = .ok (.getfield 35, 3) := by decide +kernel
theorem dX10_endless_14 : decode cX10_endless 14 = .ok (.invokevirtual 153, 3) := by decide +kernel
theorem dX10_endless_17 : decode cX10_endless 17 = .ok (.aload_n 0, 1) := by decide +kernel
theorem dX10_endless_18 : decode cX10_endless 18 = .ok (.getfield 35, 3) := by decide +kernel
theorem dX10_endless_21 : decode cX10_endless 21 = .ok (.iload_n 1, 1) := by decide +kernel
theorem dX10_endless_22 : decode cX10_endless 22 = .ok (.invokevirtual 183, 3) := by decide +kernel
theorem dX10_endless_25 : decode cX10_endless 25 = .ok (.aload_n 0, 1) := by decide +kernel
theorem dX10_endless_26 : decode cX10_endless 26 = .ok (.getfield 35, 3) := by decide +kernel
theorem dX10_endless_29 : decode cX10_endless 29 = .ok (.getfield 156, 3) := by decide +kernel
theorem dX10_endless_32 : decode cX10_endless 32 = .ok (.iand, 1) := by decide +kernel
theorem dX10_endless_33 : decode cX10_endless 33 = .ok (.aload_n 0, 1) := by decide +kernel
theorem dX10_endless_34 : decode cX10_endless 34 = .ok (.getfield 10, 3) := by decide +kernel
theorem dX10_endless_37 : decode cX10_endless 37 = .ok (.invokevirtual 195, 3) := by decide +kernel
theorem dX10_endless_40 : decode cX10_endless 40 = .ok (.iand, 1) := by decide +kernel
theorem dX10_endless_41 : decode cX10_endless 41 = .ok (.invokestatic 162, 3) := by decide +kernel
theorem dX10_endless_44 : decode cX10_endless 44 = .ok (.ireturn, 1) := by decide +kernel
theorem dX10_interrupt_0 : decode cX10_interrupt 0 = .ok (.iload_n 1, 1) := by decide +kernel
theorem dX10_interrupt_1 : decode cX10_interrupt 1 = .ok (.iconst 1, 1) := by decide +kernel
theorem dX10_interrupt_2 : decode cX10_interrupt 2 = .ok (.bipush 7, 2) := by decide +kernel
theorem dX10_interrupt_4 : decode cX10_interrupt 4 = .ok (.invokestatic 83, 3) := by decide +kernel
theorem dX10_interrupt_7 : decode cX10_interrupt 7 = .ok (.ifCond .eq 21, 3) := by decide +kernel
theorem dX10_interrupt_10 : decode cX10_interrupt 10 = .ok (.aload_n 0, 1) := by decide +kernel
theorem dX10_interrupt_11 : decode cX10_interrupt 11 = .ok (.iload_n 2, 1) := by decide +kernel
theorem dX10_interrupt_12 : decode cX10_interrupt 12 = .ok (.invokevirtual 98, 3) := by decide +kernel
theorem dX10_interrupt_15 : decode cX10_interrupt 15 = .ok (.ifCond .eq 13, 3) := by decide +kernel
theorem dX10_interrupt_18 : decode cX10_interrupt 18 = .ok (.iload_n 3, 1) := by decide +kernel
theorem dX10_interrupt_19 : decode cX10_interrupt 19 = .ok (.iconst 0, 1) := by decide +kernel
theorem dX10_interrupt_20 : decode cX10_interrupt 20 = .ok (.bipush 100, 2) := by decide +kernel
theorem dX10_interrupt_22 : decode cX10_interrupt 22 = .ok (.invokestatic 83, 3) := by decide +kernel
theorem dX10_interrupt_25 : decode cX10_interrupt 25 = .ok (.ifCond .ne 5, 3) := by decide +kernel
theorem dX10_interrupt_28 : decode cX10_interrupt 28 = .ok (.iconst (-1), 1) := by decide +kernel
theorem dX10_interrupt_29 : decode cX10_interrupt 29 = .ok (.ireturn, 1) := by decide +kernel
theorem dX10_interrupt_30 : decode cX10_interrupt 30 = .ok (.aload_n 0, 1) := by decide +kernel
theorem dX10_interrupt_31 : decode cX10_interrupt 31 = .ok (.getfield 51, 3) := by decide +kernel
theorem dX10_interrupt_34 : decode cX10_interrupt 34 = .ok (.getfield 199, 3) := by decide +kernel
theorem dX10_interrupt_37 : decode cX10_interrupt 37 = .ok (.bipush 8, 2) := by decide +kernel
theorem dX10_interrupt_39 : decode cX10_interrupt 39 = .ok (.if_icmp .lt 6, 3) := by decide +kernel
theorem dX10_interrupt_42 : decode cX10_interrupt 42 = .ok (.bipush (-3), 2) := by decide +kernel
theorem dX10_interrupt_44 : decode cX10_interrupt 44 = .ok (.ireturn, 1) := by decide +kernel
theorem dX10_interrupt_45 : decode cX10_interrupt 45 = .ok (.aload_n 0, 1) := by decide +kernel
theorem dX10_interrupt_46 : decode cX10_interrupt 46 = .ok (.getfield 51, 3) := by decide +kernel
theorem dX10_interrupt_49 : decode cX10_interrupt 49 = .ok (.iload_n 1, 1) := by decide +kernel
theorem dX10_interrupt_50 : decode cX10_interrupt 50 = .ok (.iload_n 2, 1) := by decide +kernel
theorem dX10_interrupt_51 : decode cX10_interrupt 51 = .ok (.iload_n 3, 1) := by decide +kernel
theorem dX10_interrupt_52 : decode cX10_interrupt 52 = .ok (.invokevirtual 200, 3) := by decide +kernel
theorem dX10_interrupt_55 : decode cX10_interrupt 55 = .ok (.ireturn, 1) := by decide +kernel
theorem dX10_task_0 : decode cX10_task 0 = .ok (.aload_n 0, 1) := by decide +kernel
theorem dX10_task_1 : decode cX10_task 1 = .ok (.iload_n 1, 1) := by decide +kernel
theorem dX10_task_2 : decode cX10_task 2 = .ok (.invokevirtual 98, 3) := by decide +kernel
theorem dX10_task_5 : decode cX10_task 5 = .ok (.ifCond .eq 23, 3) := by decide +kernel
theorem dX10_task_8 : decode cX10_task 8 = .ok (.iload_n 2, 1) := by decide +kernel
theorem dX10_task_9 : decode cX10_task 9 = .ok (.iconst 0, 1) := by decide +kernel
theorem dX10_task_10 : decode cX10_task 10 = .ok (.bipush 7, 2) := by decide +kernel
theorem dX10_task_12 : decode cX10_task 12 = .ok (.invokestatic 83, 3) := by decide +kernel
theorem dX10_task_15 : decode cX10_task 15 = .ok (.ifCond .eq 13, 3) := by decide +kernel
theorem dX10_task_18 : decode cX10_task 18 = .ok (.iload_n 3, 1) := by decide +kernel
theorem dX10_task_19 : decode cX10_task 19 = .ok (.iconst 0, 1) := by decide +kernel
theorem dX10_task_20 : decode cX10_task 20 = .ok (.bipush 100, 2) := by decide +kernel
theorem dX10_task_22 : decode cX10_task 22 = .ok (.invokestatic 83, 3) := by decide +kernel
theorem dX10_task_25 : decode cX10_task 25 = .ok (.ifCond .ne 5, 3) := by decide +kernel
theorem dX10_task_28 : decode cX10_task 28 = .ok (.iconst (-1), 1) := by decide +kernel
theorem dX10_task_29 : decode cX10_task 29 = .ok (.ireturn, 1) := by decide +kernel
theorem dX10_task_30 : decode cX10_task 30 = .ok (.aload_n 0, 1) := by decide +kernel
theorem dX10_task_31 : decode cX10_task 31 = .ok (.getfield 58, 3) := by decide +kernel
theorem dX10_task_34 : decode cX10_task 34 = .ok (.getfield 202, 3) := by decide +kernel
theorem dX10_task_37 : decode cX10_task 37 = .ok (.bipush 6, 2) := by decide +kernel
theorem dX10_task_39 : decode cX10_task 39 = .ok (.if_icmp .lt 6, 3) := by decide +kernel
theorem dX10_task_42 : decode cX10_task 42 = .ok (.bipush (-3), 2) := by decide +kernel
theorem dX10_task_44 : decode cX10_task 44 = .ok (.ireturn, 1) := by decide +kernel
theorem dX10_task_45 : decode cX10_task 45 = .ok (.aload_n 0, 1) := by decide +kernel
theorem dX10_task_46 : decode cX10_task 46 = .ok (.getfield 58, 3) := by decide +kernel
theorem dX10_task_49 : decode cX10_task 49 = .ok (.iload_n 1, 1) := by decide +kernel
theorem dX10_task_50 : decode cX10_task 50 = .ok (.iload_n 2, 1) := by decide +kernel
theorem dX10_task_51 : decode cX10_task 51 = .ok (.iload_n 3, 1) := by decide +kernel
theorem dX10_task_52 : decode cX10_task 52 = .ok (.invokevirtual 203, 3) := by decide +kernel
theorem dX10_task_55 : decode cX10_task 55 = .ok (.ireturn, 1) := by decide +kernel
theorem dX10_total_0 : decode cX10_total 0 = .ok (.aload_n 0, 1) := by decide +kernel
theorem dX10_total_1 : decode cX10_total 1 = .ok (.iload_n 1, 1) := by decide +kernel
theorem dX10_total_2 : decode cX10_total 2 = .ok (.invokevirtual 204, 3) := by decide +kernel
theorem dX10_total_5 : decode cX10_total 5 = .ok (.ifCond .ne 5, 3) := by decide +kernel
theorem dX10_total_8 : decode cX10_total 8 = .ok (.iconst (-1), 1) := by decide +kernel
theorem dX10_total_9 : decode cX10_total 9 = .ok (.ireturn, 1) := by decide +kernel
theorem dX10_total_10 : decode cX10_total 10 = .ok (.aload_n 0, 1) := by decide +kernel
theorem dX10_total_11 : decode cX10_total 11 = .ok (.getfield 44, 3) := by decide +kernel
theorem dX10_total_14 : decode cX10_total 14 = .ok (.iconst (-1), 1) := by decide +kernel
theorem dX10_total_15 : decode cX10_total 15 = .ok (.invokevirtual 176, 3) := by decide +kernel
theorem dX10_total_18 : decode cX10_total 18 = .ok (.iload_n 2, 1) := by decide +kernel
theorem dX10_total_19 : decode cX10_total 19 = .ok (.tableswitch 83 0 3 #[29, 47, 71, 77], 29) := by decide +kernel
theorem dX10_total_48 : decode cX10_total 48 = .ok (.aload_n 0, 1) := by decide +kernel
theorem dX10_total_49 : decode cX10_total 49 = .ok (.getfield 44, 3) := by decide +kernel
theorem dX10_total_52 : decode cX10_total 52 = .ok (.getfield 180, 3) := by decide +kernel
theorem dX10_total_55 : decode cX10_total 55 = .ok (.aload_n 0, 1) := by decide +kernel
theorem dX10_total_56 : decode cX10_total 56 = .ok (.getfield 58, 3) := by decide +kernel
theorem dX10_total_59 : decode cX10_total 59 = .ok (.getfield 207, 3) := by decide +kernel
theorem dX10_total_62 : decode cX10_total 62 = .ok (.iload_n 1, 1) := by decide +kernel
theorem dX10_total_63 : decode cX10_total 63 = .ok (.iaload, 1) := by decide +kernel
theorem dX10_total_64 : decode cX10_total 64 = .ok (.iaload, 1) := by decide +kernel
theorem dX10_total_65 : decode cX10_total 65 = .ok (.ireturn, 1) := by decide +kernel
theorem dX10_total_66 : decode cX10_total 66 = .ok (.aload_n 0, 1) := by decide +kernel
theorem dX10_total_67 : decode cX10_total 67 = .ok (.getfield 51, 3) := by decide +kernel
theorem dX10_total_70 : decode cX10_total 70 = .ok (.aload_n 0, 1) := by decide +kernel
theorem dX10_total_71 : decode cX10_total 71 = .ok (.getfield 58, 3) := by decide +kernel
theorem dX10_total_74 : decode cX10_total 74 = .ok (.getfield 209, 3) := by decide +kernel
theorem dX10_total_77 : decode cX10_total 77 = .ok (.iload_n 1, 1) := by decide +kernel
theorem dX10_total_78 : decode cX10_total 78 = .ok (.iaload, 1) := by decide +kernel
theorem dX10_total_79 : decode cX10_total 79 = .ok (.aload_n 0, 1) := by decide +kernel
theorem dX10_total_80 : decode cX10_total 80 = .ok (.getfield 44, 3) := by decide +kernel
theorem dX10_total_83 : decode cX10_total 83 = .ok (.getfield 180, 3) := by decide +kernel
theorem dX10_total_86 : decode cX10_total 86 = .ok (.invokevirtual 212, 3) := by decide +kernel
theorem dX10_total_89 : decode cX10_total 89 = .ok (.ireturn, 1) := by decide +kernel
theorem dX10_total_90 : decode cX10_total 90 = .ok (.aload_n 0, 1) := by decide +kernel
theorem dX10_total_91 : decode cX10_total 91 = .ok (.iload_n 1, 1) := by decide +kernel
theorem dX10_total_92 : decode cX10_total 92 = .ok (.invokevirtual 216, 3) := by decide +kernel
theorem dX10_total_95 : decode cX10_total 95 = .ok (.ireturn, 1) := by decide +kernel
theorem dX10_total_96 : decode cX10_total 96 = .ok (.aload_n 0, 1) := by decide +kernel
theorem dX10_total_97 : decode cX10_total 97 = .ok (.iload_n 1, 1) := by decide +kernel
theorem dX10_total_98 : decode cX10_total 98 = .ok (.invokevirtual 219, 3) := by decide +kernel
theorem dX10_total_101 : decode cX10_total 101 = .ok (.ireturn, 1) := by decide +kernel
theorem dX10_total_102 : decode cX10_total 102 = .ok (.iconst (-1), 1) := by decide +kernel
theorem dX10_total_103 : decode cX10_total 103 = .ok (.ireturn, 1) := by decide +kernel
theorem dX10_apart_0 : decode cX10_apart 0 = .ok (.aload_n 0, 1) := by decide +kernel
theorem dX10_apart_1 : decode cX10_apart 1 = .ok (.iload_n 1, 1) := by decide +kernel
theorem dX10_apart_2 : decode cX10_apart 2 = .ok (.invokevirtual 204, 3) := by decide +kernel
theorem dX10_apart_5 : decode cX10_apart 5 = .ok (.ifCond .eq 16, 3) := by decide +kernel
theorem dX10_apart_8 : decode cX10_apart 8 = .ok (.aload_n 0, 1) := by decide +kernel
theorem dX10_apart_9 : decode cX10_apart 9 = .ok (.iload_n 2, 1) := by decide +kernel
theorem dX10_apart_10 : decode cX10_apart 10 = .ok (.invokevirtual 204, 3) := by decide +kernel
theorem dX10_apart_13 : decode cX10_apart 13 = .ok (.ifCond .eq 8, 3) := by decide +kernel
theorem dX10_apart_16 : decode cX10_apart 16 = .ok (.iload_n 1, 1) := by decide +kernel
theorem dX10_apart_17 : decode cX10_apart 17 = .ok (.iload_n 2, 1) := by decide +kernel
theorem dX10_apart_18 : decode cX10_apart 18 = .ok (.if_icmp .ne 5, 3) := by decide +kernel
theorem dX10_apart_21 : decode cX10_apart 21 = .ok (.iconst (-1), 1) := by decide +kernel
theorem dX10_apart_22 : decode cX10_apart 22 = .ok (.ireturn, 1) := by decide +kernel
theorem dX10_apart_23 : decode cX10_apart 23 = .ok (.aload_n 0, 1) := by decide +kernel
theorem dX10_apart_24 : decode cX10_apart 24 = .ok (.getfield 58, 3) := by decide +kernel
theorem dX10_apart_27 : decode cX10_apart 27 = .ok (.getfield 222, 3) := by decide +kernel
theorem dX10_apart_30 : decode cX10_apart 30 = .ok (.iload_n 1, 1) := by decide +kernel
theorem dX10_apart_31 : decode cX10_apart 31 = .ok (.iaload, 1) := by decide +kernel
theorem dX10_apart_32 : decode cX10_apart 32 = .ok (.iload_n 2, 1) := by decide +kernel
theorem dX10_apart_33 : decode cX10_apart 33 = .ok (.invokestatic 136, 3) := by decide +kernel
theorem dX10_apart_36 : decode cX10_apart 36 = .ok (.ifCond .eq 7, 3) := by decide +kernel
theorem dX10_apart_39 : decode cX10_apart 39 = .ok (.iconst 1, 1) := by decide +kernel
theorem dX10_apart_40 : decode cX10_apart 40 = .ok (.goto 4, 3) := by decide +kernel
theorem dX10_apart_43 : decode cX10_apart 43 = .ok (.iconst 0, 1) := by decide +kernel
theorem dX10_apart_44 : decode cX10_apart 44 = .ok (.istore 4, 2) := by decide +kernel
theorem dX10_apart_46 : decode cX10_apart 46 = .ok (.aload_n 0, 1) := by decide +kernel
theorem dX10_apart_47 : decode cX10_apart 47 = .ok (.getfield 58, 3) := by decide +kernel
theorem dX10_apart_50 : decode cX10_apart 50 = .ok (.iload_n 1, 1) := by decide +kernel
theorem dX10_apart_51 : decode cX10_apart 51 = .ok (.iload_n 2, 1) := by decide +kernel
theorem dX10_apart_52 : decode cX10_apart 52 = .ok (.iload_n 3, 1) := by decide +kernel
theorem dX10_apart_53 : decode cX10_apart 53 = .ok (.invokevirtual 225, 3) := by decide +kernel
theorem dX10_apart_56 : decode cX10_apart 56 = .ok (.iload 4, 2) := by decide +kernel
theorem dX10_apart_58 : decode cX10_apart 58 = .ok (.ireturn, 1) := by decide +kernel
theorem dX10_shared_0 : decode cX10_shared 0 = .ok (.aload_n 0, 1) := by decide +kernel
theorem dX10_shared_1 : decode cX10_shared 1 = .ok (.invokevirtual 229, 3) := by decide +kernel
theorem dX10_shared_4 : decode cX10_shared 4 = .ok (.ireturn, 1) := by decide +kernel
theorem dX10_group_0 : decode cX10_group 0 = .ok (.aload_n 0, 1) := by decide +kernel
theorem dX10_group_1 : decode cX10_group 1 = .ok (.iload_n 1, 1) := by decide +kernel
theorem dX10_group_2 : decode cX10_group 2 = .ok (.invokevirtual 204, 3) := by decide +kernel
theorem dX10_group_5 : decode cX10_group 5 = .ok (.ifCond .ne 5, 3) := by decide +kernel
theorem dX10_group_8 : decode cX10_group 8 = .ok (.iconst (-1), 1) := by decide +kernel
theorem dX10_group_9 : decode cX10_group 9 = .ok (.ireturn, 1) := by decide +kernel
theorem dX10_group_10 : decode cX10_group 10 = .ok (.aload_n 0, 1) := by decide +kernel
theorem dX10_group_11 : decode cX10_group 11 = .ok (.invokevirtual 229, 3) := by decide +kernel
theorem dX10_group_14 : decode cX10_group 14 = .ok (.bipush (-5), 2) := by decide +kernel
theorem dX10_group_16 : decode cX10_group 16 = .ok (.if_icmp .ne 8, 3) := by decide +kernel
theorem dX10_group_19 : decode cX10_group 19 = .ok (.bipush (-5), 2) := by decide +kernel
theorem dX10_group_21 : decode cX10_group 21 = .ok (.goto 12, 3) := by decide +kernel
theorem dX10_group_24 : decode cX10_group 24 = .ok (.aload_n 0, 1) := by decide +kernel
theorem dX10_group_25 : decode cX10_group 25 = .ok (.getfield 65, 3) := by decide +kernel
theorem dX10_group_28 : decode cX10_group 28 = .ok (.getfield 232, 3) := by decide +kernel
theorem dX10_group_31 : decode cX10_group 31 = .ok (.iload_n 1, 1) := by decide +kernel
theorem dX10_group_32 : decode cX10_group 32 = .ok (.iaload, 1) := by decide +kernel
theorem dX10_group_33 : decode cX10_group 33 = .ok (.ireturn, 1) := by decide +kernel
theorem dX10_saves_0 : decode cX10_saves 0 = .ok (.aload_n 0, 1) := by decide +kernel
theorem dX10_saves_1 : decode cX10_saves 1 = .ok (.iload_n 1, 1) := by decide +kernel
theorem dX10_saves_2 : decode cX10_saves 2 = .ok (.invokevirtual 204, 3) := by decide +kernel
theorem dX10_saves_5 : decode cX10_saves 5 = .ok (.ifCond .eq 11, 3) := by decide +kernel
theorem dX10_saves_8 : decode cX10_saves 8 = .ok (.aload_n 0, 1) := by decide +kernel
theorem dX10_saves_9 : decode cX10_saves 9 = .ok (.iload_n 2, 1) := by decide +kernel
theorem dX10_saves_10 : decode cX10_saves 10 = .ok (.invokevirtual 98, 3) := by decide +kernel
theorem dX10_saves_13 : decode cX10_saves 13 = .ok (.ifCond .ne 5, 3) := by decide +kernel
theorem dX10_saves_16 : decode cX10_saves 16 = .ok (.iconst (-1), 1) := by decide +kernel
theorem dX10_saves_17 : decode cX10_saves 17 = .ok (.ireturn, 1) := by decide +kernel
theorem dX10_saves_18 : decode cX10_saves 18 = .ok (.aload_n 0, 1) := by decide +kernel
theorem dX10_saves_19 : decode cX10_saves 19 = .ok (.iload_n 1, 1) := by decide +kernel
theorem dX10_saves_20 : decode cX10_saves 20 = .ok (.iconst (-1), 1) := by decide +kernel
theorem dX10_saves_21 : decode cX10_saves 21 = .ok (.invokevirtual 235, 3) := by decide +kernel
theorem dX10_saves_24 : decode cX10_saves 24 = .ok (.istore_n 3, 1) := by decide +kernel
theorem dX10_saves_25 : decode cX10_saves 25 = .ok (.iload_n 3, 1) := by decide +kernel
theorem dX10_saves_26 : decode cX10_saves 26 = .ok (.bipush (-5), 2) := by decide +kernel
theorem dX10_saves_28 : decode cX10_saves 28 = .ok (.if_icmp .ne 8, 3) := by decide +kernel
theorem dX10_saves_31 : decode cX10_saves 31 = .ok (.bipush (-5), 2) := by decide +kernel
theorem dX10_saves_33 : decode cX10_saves 33 = .ok (.goto 11, 3) := by decide +kernel
theorem dX10_saves_36 : decode cX10_saves 36 = .ok (.iload_n 3, 1) := by decide +kernel
theorem dX10_saves_37 : decode cX10_saves 37 = .ok (.aload_n 0, 1) := by decide +kernel
theorem dX10_saves_38 : decode cX10_saves 38 = .ok (.iload_n 1, 1) := by decide +kernel
theorem dX10_saves_39 : decode cX10_saves 39 = .ok (.iload_n 2, 1) := by decide +kernel
theorem dX10_saves_40 : decode cX10_saves 40 = .ok (.invokevirtual 235, 3) := by decide +kernel
theorem dX10_saves_43 : decode cX10_saves 43 = .ok (.isub, 1) := by decide +kernel
theorem dX10_saves_44 : decode cX10_saves 44 = .ok (.ireturn, 1) := by decide +kernel
theorem dX10_best_0 : decode cX10_best 0 = .ok (.aload_n 0, 1) := by decide +kernel
theorem dX10_best_1 : decode cX10_best 1 = .ok (.iload_n 1, 1) := by decide +kernel
theorem dX10_best_2 : decode cX10_best 2 = .ok (.invokevirtual 204, 3) := by decide +kernel
theorem dX10_best_5 : decode cX10_best 5 = .ok (.ifCond .ne 5, 3) := by decide +kernel
theorem dX10_best_8 : decode cX10_best 8 = .ok (.iconst (-1), 1) := by decide +kernel
theorem dX10_best_9 : decode cX10_best 9 = .ok (.ireturn, 1) := by decide +kernel
theorem dX10_best_10 : decode cX10_best 10 = .ok (.aload_n 0, 1) := by decide +kernel
theorem dX10_best_11 : decode cX10_best 11 = .ok (.iload_n 1, 1) := by decide +kernel
theorem dX10_best_12 : decode cX10_best 12 = .ok (.iconst (-1), 1) := by decide +kernel
theorem dX10_best_13 : decode cX10_best 13 = .ok (.invokevirtual 235, 3) := by decide +kernel
theorem dX10_best_16 : decode cX10_best 16 = .ok (.istore_n 2, 1) := by decide +kernel
theorem dX10_best_17 : decode cX10_best 17 = .ok (.iload_n 2, 1) := by decide +kernel
theorem dX10_best_18 : decode cX10_best 18 = .ok (.bipush (-5), 2) := by decide +kernel
theorem dX10_best_20 : decode cX10_best 20 = .ok (.if_icmp .ne 6, 3) := by decide +kernel
theorem dX10_best_23 : decode cX10_best 23 = .ok (.bipush (-5), 2) := by decide +kernel
theorem dX10_best_25 : decode cX10_best 25 = .ok (.ireturn, 1) := by decide +kernel
theorem dX10_best_26 : decode cX10_best 26 = .ok (.iload_n 2, 1) := by decide +kernel
theorem dX10_best_27 : decode cX10_best 27 = .ok (.istore_n 3, 1) := by decide +kernel
theorem dX10_best_28 : decode cX10_best 28 = .ok (.bipush (-4), 2) := by decide +kernel
theorem dX10_best_30 : decode cX10_best 30 = .ok (.istore 4, 2) := by decide +kernel
theorem dX10_best_32 : decode cX10_best 32 = .ok (.iconst 0, 1) := by decide +kernel
theorem dX10_best_33 : decode cX10_best 33 = .ok (.istore 5, 2) := by decide +kernel
theorem dX10_best_35 : decode cX10_best 35 = .ok (.iload 5, 2) := by decide +kernel
theorem dX10_best_37 : decode cX10_best 37 = .ok (.aload_n 0, 1) := by decide +kernel
theorem dX10_best_38 : decode cX10_best 38 = .ok (.getfield 10, 3) := by decide +kernel
theorem dX10_best_41 : decode cX10_best 41 = .ok (.getfield 87, 3) := by decide +kernel
theorem dX10_best_44 : decode cX10_best 44 = .ok (.if_icmp .ge 31, 3) := by decide +kernel
theorem dX10_best_47 : decode cX10_best 47 = .ok (.aload_n 0, 1) := by decide +kernel
theorem dX10_best_48 : decode cX10_best 48 = .ok (.iload_n 1, 1) := by decide +kernel
theorem dX10_best_49 : decode cX10_best 49 = .ok (.iload 5, 2) := by decide +kernel
theorem dX10_best_51 : decode cX10_best 51 = .ok (.invokevirtual 235, 3) := by decide +kernel
theorem dX10_best_54 : decode cX10_best 54 = .ok (.istore 6, 2) := by decide +kernel
theorem dX10_best_56 : decode cX10_best 56 = .ok (.iload 6, 2) := by decide +kernel
theorem dX10_best_58 : decode cX10_best 58 = .ok (.iload_n 3, 1) := by decide +kernel
theorem dX10_best_59 : decode cX10_best 59 = .ok (.if_icmp .ge 10, 3) := by decide +kernel
theorem dX10_best_62 : decode cX10_best 62 = .ok (.iload 6, 2) := by decide +kernel
theorem dX10_best_64 : decode cX10_best 64 = .ok (.istore_n 3, 1) := by decide +kernel
theorem dX10_best_65 : decode cX10_best 65 = .ok (.iload 5, 2) := by decide +kernel
theorem dX10_best_67 : decode cX10_best 67 = .ok (.istore 4, 2) := by decide +kernel
theorem dX10_best_69 : decode cX10_best 69 = .ok (.iinc 5 1, 3) := by decide +kernel
theorem dX10_best_72 : decode cX10_best 72 = .ok (.goto (-37), 3) := by decide +kernel
theorem dX10_best_75 : decode cX10_best 75 = .ok (.iload 4, 2) := by decide +kernel
theorem dX10_best_77 : decode cX10_best 77 = .ok (.ireturn, 1) := by decide +kernel
theorem dX10_run_0 : decode cX10_run 0 = .ok (.aload_n 0, 1) := by decide +kernel
theorem dX10_run_1 : decode cX10_run 1 = .ok (.iload_n 1, 1) := by decide +kernel
theorem dX10_run_2 : decode cX10_run 2 = .ok (.invokevirtual 98, 3) := by decide +kernel
theorem dX10_run_5 : decode cX10_run 5 = .ok (.ifCond .ne 5, 3) := by decide +kernel
theorem dX10_run_8 : decode cX10_run 8 = .ok (.iconst (-1), 1) := by decide +kernel
theorem dX10_run_9 : decode cX10_run 9 = .ok (.ireturn, 1) := by decide +kernel
theorem dX10_run_10 : decode cX10_run 10 = .ok (.aload_n 0, 1) := by decide +kernel
theorem dX10_run_11 : decode cX10_run 11 = .ok (.getfield 72, 3) := by decide +kernel
theorem dX10_run_14 : decode cX10_run 14 = .ok (.iload_n 1, 1) := by decide +kernel
theorem dX10_run_15 : decode cX10_run 15 = .ok (.invokevirtual 238, 3) := by decide +kernel
theorem dX10_run_18 : decode cX10_run 18 = .ok (.aload_n 0, 1) := by decide +kernel
theorem dX10_run_19 : decode cX10_run 19 = .ok (.getfield 72, 3) := by decide +kernel
theorem dX10_run_22 : decode cX10_run 22 = .ok (.iload_n 1, 1) := by decide +kernel
theorem dX10_run_23 : decode cX10_run 23 = .ok (.aload_n 0, 1) := by decide +kernel
theorem dX10_run_24 : decode cX10_run 24 = .ok (.getfield 10, 3) := by decide +kernel
theorem dX10_run_27 : decode cX10_run 27 = .ok (.getfield 102, 3) := by decide +kernel
theorem dX10_run_30 : decode cX10_run 30 = .ok (.iload_n 1, 1) := by decide +kernel
theorem dX10_run_31 : decode cX10_run 31 = .ok (.iaload, 1) := by decide +kernel
theorem dX10_run_32 : decode cX10_run 32 = .ok (.invokevirtual 241, 3) := by decide +kernel
theorem dX10_run_35 : decode cX10_run 35 = .ok (.aload_n 0, 1) := by decide +kernel
theorem dX10_run_36 : decode cX10_run 36 = .ok (.getfield 72, 3) := by decide +kernel
theorem dX10_run_39 : decode cX10_run 39 = .ok (.getfield 244, 3) := by decide +kernel
theorem dX10_run_42 : decode cX10_run 42 = .ok (.ireturn, 1) := by decide +kernel
theorem dX10_enter_0 : decode cX10_enter 0 = .ok (.aload_n 0, 1) := by decide +kernel
theorem dX10_enter_1 : decode cX10_enter 1 = .ok (.iload_n 1, 1) := by decide +kernel
theorem dX10_enter_2 : decode cX10_enter 2 = .ok (.invokevirtual 98, 3) := by decide +kernel
theorem dX10_enter_5 : decode cX10_enter 5 = .ok (.ifCond .ne 5, 3) := by decide +kernel
theorem dX10_enter_8 : decode cX10_enter 8 = .ok (.iconst (-1), 1) := by decide +kernel
theorem dX10_enter_9 : decode cX10_enter 9 = .ok (.ireturn, 1) := by decide +kernel
theorem dX10_enter_10 : decode cX10_enter 10 = .ok (.aload_n 0, 1) := by decide +kernel
theorem dX10_enter_11 : decode cX10_enter 11 = .ok (.getfield 72, 3) := by decide +kernel
theorem dX10_enter_14 : decode cX10_enter 14 = .ok (.getfield 247, 3) := by decide +kernel
theorem dX10_enter_17 : decode cX10_enter 17 = .ok (.ifCond .ne 6, 3) := by decide +kernel
theorem dX10_enter_20 : decode cX10_enter 20 = .ok (.bipush (-2), 2) := by decide +kernel
theorem dX10_enter_22 : decode cX10_enter 22 = .ok (.ireturn, 1) := by decide +kernel
theorem dX10_enter_23 : decode cX10_enter 23 = .ok (.aload_n 0, 1) := by decide +kernel
theorem dX10_enter_24 : decode cX10_enter 24 = .ok (.getfield 72, 3) := by decide +kernel
theorem dX10_enter_27 : decode cX10_enter 27 = .ok (.getfield 247, 3) := by decide +kernel
theorem dX10_enter_30 : decode cX10_enter 30 = .ok (.bipush 40, 2) := by decide +kernel
theorem dX10_enter_32 : decode cX10_enter 32 = .ok (.if_icmp .lt 6, 3) := by decide +kernel
theorem dX10_enter_35 : decode cX10_enter 35 = .ok (.bipush (-3), 2) := by decide +kernel
theorem dX10_enter_37 : decode cX10_enter 37 = .ok (.ireturn, 1) := by decide +kernel
theorem dX10_enter_38 : decode cX10_enter 38 = .ok (.aload_n 0, 1) := by decide +kernel
theorem dX10_enter_39 : decode cX10_enter 39 = .ok (.getfield 35, 3) := by decide +kernel
theorem dX10_enter_42 : decode cX10_enter 42 = .ok (.invokevirtual 153, 3) := by decide +kernel
theorem dX10_enter_45 : decode cX10_enter 45 = .ok (.aload_n 0, 1) := by decide +kernel
theorem dX10_enter_46 : decode cX10_enter 46 = .ok (.getfield 72, 3) := by decide +kernel
theorem dX10_enter_49 : decode cX10_enter 49 = .ok (.aload_n 0, 1) := by decide +kernel
theorem dX10_enter_50 : decode cX10_enter 50 = .ok (.getfield 35, 3) := by decide +kernel
theorem dX10_enter_53 : decode cX10_enter 53 = .ok (.getfield 250, 3) := by decide +kernel
theorem dX10_enter_56 : decode cX10_enter 56 = .ok (.aload_n 0, 1) := by decide +kernel
theorem dX10_enter_57 : decode cX10_enter 57 = .ok (.getfield 72, 3) := by decide +kernel
theorem dX10_enter_60 : decode cX10_enter 60 = .ok (.invokevirtual 253, 3) := by decide +kernel
theorem dX10_enter_63 : decode cX10_enter 63 = .ok (.iaload, 1) := by decide +kernel
theorem dX10_enter_64 : decode cX10_enter 64 = .ok (.iload_n 1, 1) := by decide +kernel
theorem dX10_enter_65 : decode cX10_enter 65 = .ok (.invokestatic 136, 3) := by decide +kernel
theorem dX10_enter_68 : decode cX10_enter 68 = .ok (.invokevirtual 256, 3) := by decide +kernel
theorem dX10_enter_71 : decode cX10_enter 71 = .ok (.aload_n 0, 1) := by decide +kernel
theorem dX10_enter_72 : decode cX10_enter 72 = .ok (.iload_n 1, 1) := by decide +kernel
theorem dX10_enter_73 : decode cX10_enter 73 = .ok (.invokevirtual 260, 3) := by decide +kernel
theorem dX10_enter_76 : decode cX10_enter 76 = .ok (.ireturn, 1) := by decide +kernel
theorem dX10_over_0 : decode cX10_over 0 = .ok (.aload_n 0, 1) := by decide +kernel
theorem dX10_over_1 : decode cX10_over 1 = .ok (.iload_n 1, 1) := by decide +kernel
theorem dX10_over_2 : decode cX10_over 2 = .ok (.invokevirtual 98, 3) := by decide +kernel
theorem dX10_over_5 : decode cX10_over 5 = .ok (.ifCond .ne 5, 3) := by decide +kernel
theorem dX10_over_8 : decode cX10_over 8 = .ok (.iconst (-1), 1) := by decide +kernel
theorem dX10_over_9 : decode cX10_over 9 = .ok (.ireturn, 1) := by decide +kernel
theorem dX10_over_10 : decode cX10_over 10 = .ok (.aload_n 0, 1) := by decide +kernel
theorem dX10_over_11 : decode cX10_over 11 = .ok (.getfield 72, 3) := by decide +kernel
theorem dX10_over_14 : decode cX10_over 14 = .ok (.getfield 247, 3) := by decide +kernel
theorem dX10_over_17 : decode cX10_over 17 = .ok (.ifCond .ne 6, 3) := by decide +kernel
theorem dX10_over_20 : decode cX10_over 20 = .ok (.bipush (-2), 2) := by decide +kernel
theorem dX10_over_22 : decode cX10_over 22 = .ok (.ireturn, 1) := by decide +kernel
theorem dX10_over_23 : decode cX10_over 23 = .ok (.aload_n 0, 1) := by decide +kernel
theorem dX10_over_24 : decode cX10_over 24 = .ok (.getfield 35, 3) := by decide +kernel
theorem dX10_over_27 : decode cX10_over 27 = .ok (.invokevirtual 153, 3) := by decide +kernel
theorem dX10_over_30 : decode cX10_over 30 = .ok (.aload_n 0, 1) := by decide +kernel
theorem dX10_over_31 : decode cX10_over 31 = .ok (.getfield 72, 3) := by decide +kernel
theorem dX10_over_34 : decode cX10_over 34 = .ok (.aload_n 0, 1) := by decide +kernel
theorem dX10_over_35 : decode cX10_over 35 = .ok (.getfield 35, 3) := by decide +kernel
theorem dX10_over_38 : decode cX10_over 38 = .ok (.getfield 263, 3) := by decide +kernel
theorem dX10_over_41 : decode cX10_over 41 = .ok (.aload_n 0, 1) := by decide +kernel
theorem dX10_over_42 : decode cX10_over 42 = .ok (.getfield 72, 3) := by decide +kernel
theorem dX10_over_45 : decode cX10_over 45 = .ok (.invokevirtual 253, 3) := by decide +kernel
theorem dX10_over_48 : decode cX10_over 48 = .ok (.iaload, 1) := by decide +kernel
theorem dX10_over_49 : decode cX10_over 49 = .ok (.iload_n 1, 1) := by decide +kernel
theorem dX10_over_50 : decode cX10_over 50 = .ok (.invokestatic 136, 3) := by decide +kernel
theorem dX10_over_53 : decode cX10_over 53 = .ok (.invokevirtual 256, 3) := by decide +kernel
theorem dX10_over_56 : decode cX10_over 56 = .ok (.aload_n 0, 1) := by decide +kernel
theorem dX10_over_57 : decode cX10_over 57 = .ok (.getfield 72, 3) := by decide +kernel
theorem dX10_over_60 : decode cX10_over 60 = .ok (.invokevirtual 266, 3) := by decide +kernel
theorem dX10_over_63 : decode cX10_over 63 = .ok (.aload_n 0, 1) := by decide +kernel
theorem dX10_over_64 : decode cX10_over 64 = .ok (.iload_n 1, 1) := by decide +kernel
theorem dX10_over_65 : decode cX10_over 65 = .ok (.invokevirtual 260, 3) := by decide +kernel
theorem dX10_over_68 : decode cX10_over 68 = .ok (.ireturn, 1) := by decide +kernel
theorem dX10_leave_0 : decode cX10_leave 0 = .ok (.aload_n 0, 1) := by decide +kernel
theorem dX10_leave_1 : decode cX10_leave 1 = .ok (.getfield 72, 3) := by decide +kernel
theorem dX10_leave_4 : decode cX10_leave 4 = .ok (.getfield 247, 3) := by decide +kernel
theorem dX10_leave_7 : decode cX10_leave 7 = .ok (.ifCond .ne 6, 3) := by decide +kernel
theorem dX10_leave_10 : decode cX10_leave 10 = .ok (.bipush (-2), 2) := by decide +kernel
theorem dX10_leave_12 : decode cX10_leave 12 = .ok (.ireturn, 1) := by decide +kernel
theorem dX10_leave_13 : decode cX10_leave 13 = .ok (.aload_n 0, 1) := by decide +kernel
theorem dX10_leave_14 : decode cX10_leave 14 = .ok (.getfield 72, 3) := by decide +kernel
theorem dX10_leave_17 : decode cX10_leave 17 = .ok (.invokevirtual 266, 3) := by decide +kernel
theorem dX10_leave_20 : decode cX10_leave 20 = .ok (.aload_n 0, 1) := by decide +kernel
theorem dX10_leave_21 : decode cX10_leave 21 = .ok (.getfield 72, 3) := by decide +kernel
theorem dX10_leave_24 : decode cX10_leave 24 = .ok (.getfield 244, 3) := by decide +kernel
theorem dX10_leave_27 : decode cX10_leave 27 = .ok (.ireturn, 1) := by decide +kernel
theorem dX10_ran_0 : decode cX10_ran 0 = .ok (.iload_n 1, 1) := by decide +kernel
theorem dX10_ran_1 : decode cX10_ran 1 = .ok (.iconst 0, 1) := by decide +kernel
theorem dX10_ran_2 : decode cX10_ran 2 = .ok (.bipush 6, 2) := by decide +kernel
theorem dX10_ran_4 : decode cX10_ran 4 = .ok (.invokestatic 83, 3) := by decide +kernel
theorem dX10_ran_7 : decode cX10_ran 7 = .ok (.ifCond .ne 5, 3) := by decide +kernel
theorem dX10_ran_10 : decode cX10_ran 10 = .ok (.iconst (-1), 1) := by decide +kernel
theorem dX10_ran_11 : decode cX10_ran 11 = .ok (.ireturn, 1) := by decide +kernel
theorem dX10_ran_12 : decode cX10_ran 12 = .ok (.aload_n 0, 1) := by decide +kernel
theorem dX10_ran_13 : decode cX10_ran 13 = .ok (.getfield 72, 3) := by decide +kernel
theorem dX10_ran_16 : decode cX10_ran 16 = .ok (.getfield 269, 3) := by decide +kernel
theorem dX10_ran_19 : decode cX10_ran 19 = .ok (.iconst (-1), 1) := by decide +kernel
theorem dX10_ran_20 : decode cX10_ran 20 = .ok (.if_icmp .ne 6, 3) := by decide +kernel
theorem dX10_ran_23 : decode cX10_ran 23 = .ok (.bipush (-2), 2) := by decide +kernel
theorem dX10_ran_25 : decode cX10_ran 25 = .ok (.ireturn, 1) := by decide +kernel
theorem dX10_ran_26 : decode cX10_ran 26 = .ok (.iload_n 1, 1) := by decide +kernel
theorem dX10_ran_27 : decode cX10_ran 27 = .ok (.tableswitch 100 0 5 #[37, 45, 53, 61, 69, 77], 37) := by decide +kernel
theorem dX10_ran_64 : decode cX10_ran 64 = .ok (.aload_n 0, 1) := by decide +kernel
theorem dX10_ran_65 : decode cX10_ran 65 = .ok (.getfield 72, 3) := by decide +kernel
theorem dX10_ran_68 : decode cX10_ran 68 = .ok (.getfield 244, 3) := by decide +kernel
theorem dX10_ran_71 : decode cX10_ran 71 = .ok (.ireturn, 1) := by decide +kernel
theorem dX10_ran_72 : decode cX10_ran 72 = .ok (.aload_n 0, 1) := by decide +kernel
theorem dX10_ran_73 : decode cX10_ran 73 = .ok (.getfield 72, 3) := by decide +kernel
theorem dX10_ran_76 : decode cX10_ran 76 = .ok (.getfield 272, 3) := by decide +kernel
theorem dX10_ran_79 : decode cX10_ran 79 = .ok (.ireturn, 1) := by decide +kernel
theorem dX10_ran_80 : decode cX10_ran 80 = .ok (.aload_n 0, 1) := by decide +kernel
theorem dX10_ran_81 : decode cX10_ran 81 = .ok (.getfield 72, 3) := by decide +kernel
theorem dX10_ran_84 : decode cX10_ran 84 = .ok (.getfield 247, 3) := by decide +kernel
theorem dX10_ran_87 : decode cX10_ran 87 = .ok (.ireturn, 1) := by decide +kernel
theorem dX10_ran_88 : decode cX10_ran 88 = .ok (.aload_n 0, 1) := by decide +kernel
theorem dX10_ran_89 : decode cX10_ran 89 = .ok (.getfield 72, 3) := by decide +kernel
theorem dX10_ran_92 : decode cX10_ran 92 = .ok (.getfield 275, 3) := by decide +kernel
theorem dX10_ran_95 : decode cX10_ran 95 = .ok (.ireturn, 1) := by decide +kernel
theorem dX10_ran_96 : decode cX10_ran 96 = .ok (.aload_n 0, 1) := by decide +kernel
theorem dX10_ran_97 : decode cX10_ran 97 = .ok (.getfield 72, 3) := by decide +kernel
theorem dX10_ran_100 : decode cX10_ran 100 = .ok (.getfield 278, 3) := by decide +kernel
theorem dX10_ran_103 : decode cX10_ran 103 = .ok (.ireturn, 1) := by decide +kernel
theorem dX10_ran_104 : decode cX10_ran 104 = .ok (.aload_n 0, 1) := by decide +kernel
theorem dX10_ran_105 : decode cX10_ran 105 = .ok (.getfield 72, 3) := by decide +kernel
theorem dX10_ran_108 : decode cX10_ran 108 = .ok (.getfield 247, 3) := by decide +kernel
theorem dX10_ran_111 : decode cX10_ran 111 = .ok (.ifCond .ne 8, 3) := by decide +kernel
theorem dX10_ran_114 : decode cX10_ran 114 = .ok (.bipush (-4), 2) := by decide +kernel
theorem dX10_ran_116 : decode cX10_ran 116 = .ok (.goto 10, 3) := by decide +kernel
theorem dX10_ran_119 : decode cX10_ran 119 = .ok (.aload_n 0, 1) := by decide +kernel
theorem dX10_ran_120 : decode cX10_ran 120 = .ok (.getfield 72, 3) := by decide +kernel
theorem dX10_ran_123 : decode cX10_ran 123 = .ok (.invokevirtual 253, 3) := by decide +kernel
theorem dX10_ran_126 : decode cX10_ran 126 = .ok (.ireturn, 1) := by decide +kernel
theorem dX10_ran_127 : decode cX10_ran 127 = .ok (.aload_n 0, 1) := by decide +kernel
theorem dX10_ran_128 : decode cX10_ran 128 = .ok (.invokevirtual 281, 3) := by decide +kernel
theorem dX10_ran_131 : decode cX10_ran 131 = .ok (.ifCond .eq 7, 3) := by decide +kernel
theorem dX10_ran_134 : decode cX10_ran 134 = .ok (.iconst 1, 1) := by decide +kernel
theorem dX10_ran_135 : decode cX10_ran 135 = .ok (.goto 4, 3) := by decide +kernel
theorem dX10_ran_138 : decode cX10_ran 138 = .ok (.iconst 0, 1) := by decide +kernel
theorem dX10_ran_139 : decode cX10_ran 139 = .ok (.ireturn, 1) := by decide +kernel
theorem dX10_sheet_0 : decode cX10_sheet 0 = .ok (.iload_n 1, 1) := by decide +kernel
theorem dX10_sheet_1 : decode cX10_sheet 1 = .ok (.invokestatic 285, 3) := by decide +kernel
theorem dX10_sheet_4 : decode cX10_sheet 4 = .ok (.ifCond .eq 16, 3) := by decide +kernel
theorem dX10_sheet_7 : decode cX10_sheet 7 = .ok (.iload_n 2, 1) := by decide +kernel
theorem dX10_sheet_8 : decode cX10_sheet 8 = .ok (.invokestatic 288, 3) := by decide +kernel
theorem dX10_sheet_11 : decode cX10_sheet 11 = .ok (.ifCond .eq 9, 3) := by decide +kernel
theorem dX10_sheet_14 : decode cX10_sheet 14 = .ok (.iload_n 3, 1) := by decide +kernel
theorem dX10_sheet_15 : decode cX10_sheet 15 = .ok (.bipush 60, 2) := by decide +kernel
theorem dX10_sheet_17 : decode cX10_sheet 17 = .ok (.if_icmp .le 5, 3) := by decide +kernel
theorem dX10_sheet_20 : decode cX10_sheet 20 = .ok (.iconst (-1), 1) := by decide +kernel
theorem dX10_sheet_21 : decode cX10_sheet 21 = .ok (.ireturn, 1) := by decide +kernel
theorem dX10_sheet_22 : decode cX10_sheet 22 = .ok (.iload_n 3, 1) := by decide +kernel
theorem dX10_sheet_23 : decode cX10_sheet 23 = .ok (.ifCond .ge 6, 3) := by decide +kernel
theorem dX10_sheet_26 : decode cX10_sheet 26 = .ok (.bipush (-14), 2) := by decide +kernel
theorem dX10_sheet_28 : decode cX10_sheet 28 = .ok (.ireturn, 1) := by decide +kernel
theorem dX10_sheet_29 : decode cX10_sheet 29 = .ok (.aload_n 0, 1) := by decide +kernel
theorem dX10_sheet_30 : decode cX10_sheet 30 = .ok (.getfield 78, 3) := by decide +kernel
theorem dX10_sheet_33 : decode cX10_sheet 33 = .ok (.iload_n 1, 1) := by decide +kernel
theorem dX10_sheet_34 : decode cX10_sheet 34 = .ok (.aaload, 1) := by decide +kernel
theorem dX10_sheet_35 : decode cX10_sheet 35 = .ok (.iload_n 2, 1) := by decide +kernel
theorem dX10_sheet_36 : decode cX10_sheet 36 = .ok (.iload_n 3, 1) := by decide +kernel
theorem dX10_sheet_37 : decode cX10_sheet 37 = .ok (.invokevirtual 291, 3) := by decide +kernel
theorem dX10_sheet_40 : decode cX10_sheet 40 = .ok (.iconst 1, 1) := by decide +kernel
theorem dX10_sheet_41 : decode cX10_sheet 41 = .ok (.ireturn, 1) := by decide +kernel
theorem dX10_lay_0 : decode cX10_lay 0 = .ok (.iload_n 1, 1) := by decide +kernel
theorem dX10_lay_1 : decode cX10_lay 1 = .ok (.invokestatic 285, 3) := by decide +kernel
theorem dX10_lay_4 : decode cX10_lay 4 = .ok (.ifCond .ne 5, 3) := by decide +kernel
theorem dX10_lay_7 : decode cX10_lay 7 = .ok (.iconst (-1), 1) := by decide +kernel
theorem dX10_lay_8 : decode cX10_lay 8 = .ok (.ireturn, 1) := by decide +kernel
theorem dX10_lay_9 : decode cX10_lay 9 = .ok (.aload_n 0, 1) := by decide +kernel
theorem dX10_lay_10 : decode cX10_lay 10 = .ok (.getfield 78, 3) := by decide +kernel
theorem dX10_lay_13 : decode cX10_lay 13 = .ok (.iload_n 1, 1) := by decide +kernel
theorem dX10_lay_14 : decode cX10_lay 14 = .ok (.aaload, 1) := by decide +kernel
theorem dX10_lay_15 : decode cX10_lay 15 = .ok (.astore 4, 2) := by decide +kernel
theorem dX10_lay_17 : decode cX10_lay 17 = .ok (.aload 4, 2) := by decide +kernel
theorem dX10_lay_19 : decode cX10_lay 19 = .ok (.invokevirtual 294, 3) := by decide +kernel
theorem dX10_lay_22 : decode cX10_lay 22 = .ok (.ifCond .eq 6, 3) := by decide +kernel
theorem dX10_lay_25 : decode cX10_lay 25 = .ok (.bipush (-11), 2) := by decide +kernel
theorem dX10_lay_27 : decode cX10_lay 27 = .ok (.ireturn, 1) := by decide +kernel
theorem dX10_lay_28 : decode cX10_lay 28 = .ok (.iload_n 2, 1) := by decide +kernel
theorem dX10_lay_29 : decode cX10_lay 29 = .ok (.iconst 0, 1) := by decide +kernel
theorem dX10_lay_30 : decode cX10_lay 30 = .ok (.aload 4, 2) := by decide +kernel
theorem dX10_lay_32 : decode cX10_lay 32 = .ok (.getfield 297, 3) := by decide +kernel
theorem dX10_lay_35 : decode cX10_lay 35 = .ok (.iconst 1, 1) := by decide +kernel
theorem dX10_lay_36 : decode cX10_lay 36 = .ok (.isub, 1) := by decide +kernel
theorem dX10_lay_37 : decode cX10_lay 37 = .ok (.invokestatic 83, 3) := by decide +kernel
theorem dX10_lay_40 : decode cX10_lay 40 = .ok (.ifCond .ne 6, 3) := by decide +kernel
theorem dX10_lay_43 : decode cX10_lay 43 = .ok (.bipush (-12), 2) := by decide +kernel
theorem dX10_lay_45 : decode cX10_lay 45 = .ok (.ireturn, 1) := by decide +kernel
theorem dX10_lay_46 : decode cX10_lay 46 = .ok (.aload 4, 2) := by decide +kernel
theorem dX10_lay_48 : decode cX10_lay 48 = .ok (.iload_n 2, 1) := by decide +kernel
theorem dX10_lay_49 : decode cX10_lay 49 = .ok (.iload_n 3, 1) := by decide +kernel
theorem dX10_lay_50 : decode cX10_lay 50 = .ok (.invokevirtual 300, 3) := by decide +kernel
theorem dX10_lay_53 : decode cX10_lay 53 = .ok (.iconst 1, 1) := by decide +kernel
theorem dX10_lay_54 : decode cX10_lay 54 = .ok (.ireturn, 1) := by decide +kernel
theorem dX10_scan_0 : decode cX10_scan 0 = .ok (.iload_n 1, 1) := by decide +kernel
theorem dX10_scan_1 : decode cX10_scan 1 = .ok (.invokestatic 285, 3) := by decide +kernel
theorem dX10_scan_4 : decode cX10_scan 4 = .ok (.ifCond .eq 21, 3) := by decide +kernel
theorem dX10_scan_7 : decode cX10_scan 7 = .ok (.iload_n 2, 1) := by decide +kernel
theorem dX10_scan_8 : decode cX10_scan 8 = .ok (.invokestatic 288, 3) := by decide +kernel
theorem dX10_scan_11 : decode cX10_scan 11 = .ok (.ifCond .eq 14, 3) := by decide +kernel
theorem dX10_scan_14 : decode cX10_scan 14 = .ok (.iload 4, 2) := by decide +kernel
theorem dX10_scan_16 : decode cX10_scan 16 = .ok (.iconst 0, 1) := by decide +kernel
theorem dX10_scan_17 : decode cX10_scan 17 = .ok (.bipush 20, 2) := by decide +kernel
theorem dX10_scan_19 : decode cX10_scan 19 = .ok (.invokestatic 83, 3) := by decide +kernel
theorem dX10_scan_22 : decode cX10_scan 22 = .ok (.ifCond .ne 5, 3) := by decide +kernel
theorem dX10_scan_25 : decode cX10_scan 25 = .ok (.iconst (-1), 1) := by decide +kernel
theorem dX10_scan_26 : decode cX10_scan 26 = .ok (.ireturn, 1) := by decide +kernel
theorem dX10_scan_27 : decode cX10_scan 27 = .ok (.aload_n 0, 1) := by decide +kernel
theorem dX10_scan_28 : decode cX10_scan 28 = .ok (.getfield 78, 3) := by decide +kernel
theorem dX10_scan_31 : decode cX10_scan 31 = .ok (.iload_n 1, 1) := by decide +kernel
theorem dX10_scan_32 : decode cX10_scan 32 = .ok (.aaload, 1) := by decide +kernel
theorem dX10_scan_33 : decode cX10_scan 33 = .ok (.astore 5, 2) := by decide +kernel
theorem dX10_scan_35 : decode cX10_scan 35 = .ok (.aload 5, 2) := by decide +kernel
theorem dX10_scan_37 : decode cX10_scan 37 = .ok (.invokevirtual 294, 3) := by decide +kernel
theorem dX10_scan_40 : decode cX10_scan 40 = .ok (.ifCond .eq 6, 3) := by decide +kernel
theorem dX10_scan_43 : decode cX10_scan 43 = .ok (.bipush (-11), 2) := by decide +kernel
theorem dX10_scan_45 : decode cX10_scan 45 = .ok (.ireturn, 1) := by decide +kernel
theorem dX10_scan_46 : decode cX10_scan 46 = .ok (.aload 5, 2) := by decide +kernel
theorem dX10_scan_48 : decode cX10_scan 48 = .ok (.getfield 303, 3) := by decide +kernel
theorem dX10_scan_51 : decode cX10_scan 51 = .ok (.iload_n 2, 1) := by decide +kernel
theorem dX10_scan_52 : decode cX10_scan 52 = .ok (.if_icmp .eq 6, 3) := by decide +kernel
theorem dX10_scan_55 : decode cX10_scan 55 = .ok (.bipush (-13), 2) := by decide +kernel
theorem dX10_scan_57 : decode cX10_scan 57 = .ok (.ireturn, 1) := by decide +kernel
theorem dX10_scan_58 : decode cX10_scan 58 = .ok (.aload_n 0, 1) := by decide +kernel
theorem dX10_scan_59 : decode cX10_scan 59 = .ok (.getfield 35, 3) := by decide +kernel
theorem dX10_scan_62 : decode cX10_scan 62 = .ok (.invokevirtual 91, 3) := by decide +kernel
theorem dX10_scan_65 : decode cX10_scan 65 = .ok (.iconst 0, 1) := by decide +kernel
theorem dX10_scan_66 : decode cX10_scan 66 = .ok (.istore 6, 2) := by decide +kernel
theorem dX10_scan_68 : decode cX10_scan 68 = .ok (.iload 6, 2) := by decide +kernel
theorem dX10_scan_70 : decode cX10_scan 70 = .ok (.iload 4, 2) := by decide +kernel
theorem dX10_scan_72 : decode cX10_scan 72 = .ok (.if_icmp .ge 37, 3) := by decide +kernel
theorem dX10_scan_75 : decode cX10_scan 75 = .ok (.aload_n 0, 1) := by decide +kernel
theorem dX10_scan_76 : decode cX10_scan 76 = .ok (.aload 5, 2) := by decide +kernel
theorem dX10_scan_78 : decode cX10_scan 78 = .ok (.iload_n 3, 1) := by decide +kernel
theorem dX10_scan_79 : decode cX10_scan 79 = .ok (.iload 6, 2) := by decide +kernel
theorem dX10_scan_81 : decode cX10_scan 81 = .ok (.invokevirtual 306, 3) := by decide +kernel
theorem dX10_scan_84 : decode cX10_scan 84 = .ok (.istore 7, 2) := by decide +kernel
theorem dX10_scan_86 : decode cX10_scan 86 = .ok (.iload 7, 2) := by decide +kernel
theorem dX10_scan_88 : decode cX10_scan 88 = .ok (.ifCond .eq 15, 3) := by decide +kernel
theorem dX10_scan_91 : decode cX10_scan 91 = .ok (.aload_n 0, 1) := by decide +kernel
theorem dX10_scan_92 : decode cX10_scan 92 = .ok (.aload 5, 2) := by decide +kernel
theorem dX10_scan_94 : decode cX10_scan 94 = .ok (.iload_n 3, 1) := by decide +kernel
theorem dX10_scan_95 : decode cX10_scan 95 = .ok (.iload 6, 2) := by decide +kernel
theorem dX10_scan_97 : decode cX10_scan 97 = .ok (.invokevirtual 310, 3) := by decide +kernel
theorem dX10_scan_100 : decode cX10_scan 100 = .ok (.iload 7, 2) := by decide +kernel
theorem dX10_scan_102 : decode cX10_scan 102 = .ok (.ireturn, 1) := by decide +kernel
theorem dX10_scan_103 : decode cX10_scan 103 = .ok (.iinc 6 1, 3) := by decide +kernel
theorem dX10_scan_106 : decode cX10_scan 106 = .ok (.goto (-38), 3) := by decide +kernel
theorem dX10_scan_109 : decode cX10_scan 109 = .ok (.aload_n 0, 1) := by decide +kernel
theorem dX10_scan_110 : decode cX10_scan 110 = .ok (.getfield 26, 3) := by decide +kernel
theorem dX10_scan_113 : decode cX10_scan 113 = .ok (.getfield 120, 3) := by decide +kernel
theorem dX10_scan_116 : decode cX10_scan 116 = .ok (.ireturn, 1) := by decide +kernel
theorem dX10_count_0 : decode cX10_count 0 = .ok (.iload_n 1, 1) := by decide +kernel
theorem dX10_count_1 : decode cX10_count 1 = .ok (.tableswitch 113 0 5 #[39, 47, 55, 63, 71, 86], 39) := by decide +kernel
theorem dX10_count_40 : decode cX10_count 40 = .ok (.aload_n 0, 1) := by decide +kernel
theorem dX10_count_41 : decode cX10_count 41 = .ok (.getfield 10, 3) := by decide +kernel
theorem dX10_count_44 : decode cX10_count 44 = .ok (.getfield 87, 3) := by decide +kernel
theorem dX10_count_47 : decode cX10_count 47 = .ok (.ireturn, 1) := by decide +kernel
theorem dX10_count_48 : decode cX10_count 48 = .ok (.aload_n 0, 1) := by decide +kernel
theorem dX10_count_49 : decode cX10_count 49 = .ok (.getfield 26, 3) := by decide +kernel
theorem dX10_count_52 : decode cX10_count 52 = .ok (.getfield 120, 3) := by decide +kernel
theorem dX10_count_55 : decode cX10_count 55 = .ok (.ireturn, 1) := by decide +kernel
theorem dX10_count_56 : decode cX10_count 56 = .ok (.aload_n 0, 1) := by decide +kernel
theorem dX10_count_57 : decode cX10_count 57 = .ok (.getfield 51, 3) := by decide +kernel
theorem dX10_count_60 : decode cX10_count 60 = .ok (.getfield 199, 3) := by decide +kernel
theorem dX10_count_63 : decode cX10_count 63 = .ok (.ireturn, 1) := by decide +kernel
theorem dX10_count_64 : decode cX10_count 64 = .ok (.aload_n 0, 1) := by decide +kernel
theorem dX10_count_65 : decode cX10_count 65 = .ok (.getfield 58, 3) := by decide +kernel
theorem dX10_count_68 : decode cX10_count 68 = .ok (.getfield 202, 3) := by decide +kernel
theorem dX10_count_71 : decode cX10_count 71 = .ok (.ireturn, 1) := by decide +kernel
theorem dX10_count_72 : decode cX10_count 72 = .ok (.aload_n 0, 1) := by decide +kernel
theorem dX10_count_73 : decode cX10_count 73 = .ok (.getfield 35, 3) := by decide +kernel
theorem dX10_count_76 : decode cX10_count 76 = .ok (.invokevirtual 153, 3) := by decide +kernel
theorem dX10_count_79 : decode cX10_count 79 = .ok (.aload_n 0, 1) := by decide +kernel
theorem dX10_count_80 : decode cX10_count 80 = .ok (.getfield 35, 3) := by decide +kernel
theorem dX10_count_83 : decode cX10_count 83 = .ok (.invokevirtual 314, 3) := by decide +kernel
theorem dX10_count_86 : decode cX10_count 86 = .ok (.ireturn, 1) := by decide +kernel
theorem dX10_count_87 : decode cX10_count 87 = .ok (.aload_n 0, 1) := by decide +kernel
theorem dX10_count_88 : decode cX10_count 88 = .ok (.getfield 78, 3) := by decide +kernel
theorem dX10_count_91 : decode cX10_count 91 = .ok (.iconst 0, 1) := by decide +kernel
theorem dX10_count_92 : decode cX10_count 92 = .ok (.aaload, 1) := by decide +kernel
theorem dX10_count_93 : decode cX10_count 93 = .ok (.invokevirtual 294, 3) := by decide +kernel
theorem dX10_count_96 : decode cX10_count 96 = .ok (.ifCond .eq 8, 3) := by decide +kernel
theorem dX10_count_99 : decode cX10_count 99 = .ok (.bipush (-4), 2) := by decide +kernel
theorem dX10_count_101 : decode cX10_count 101 = .ok (.goto 12, 3) := by decide +kernel
theorem dX10_count_104 : decode cX10_count 104 = .ok (.aload_n 0, 1) := by decide +kernel
theorem dX10_count_105 : decode cX10_count 105 = .ok (.getfield 78, 3) := by decide +kernel
theorem dX10_count_108 : decode cX10_count 108 = .ok (.iconst 0, 1) := by decide +kernel
theorem dX10_count_109 : decode cX10_count 109 = .ok (.aaload, 1) := by decide +kernel
theorem dX10_count_110 : decode cX10_count 110 = .ok (.getfield 297, 3) := by decide +kernel
theorem dX10_count_113 : decode cX10_count 113 = .ok (.ireturn, 1) := by decide +kernel
theorem dX10_count_114 : decode cX10_count 114 = .ok (.iconst (-1), 1) := by decide +kernel
theorem dX10_count_115 : decode cX10_count 115 = .ok (.ireturn, 1) := by decide +kernel
theorem dX10_isRoutine_0 : decode cX10_isRoutine 0 = .ok (.iload_n 1, 1) := by decide +kernel
theorem dX10_isRoutine_1 : decode cX10_isRoutine 1 = .ok (.iconst 0, 1) := by decide +kernel
theorem dX10_isRoutine_2 : decode cX10_isRoutine 2 = .ok (.aload_n 0, 1) := by decide +kernel
theorem dX10_isRoutine_3 : decode cX10_isRoutine 3 = .ok (.getfield 10, 3) := by decide +kernel
theorem dX10_isRoutine_6 : decode cX10_isRoutine 6 = .ok (.getfield 87, 3) := by decide +kernel
theorem dX10_isRoutine_9 : decode cX10_isRoutine 9 = .ok (.iconst 1, 1) := by decide +kernel
theorem dX10_isRoutine_10 : decode cX10_isRoutine 10 = .ok (.isub, 1) := by decide +kernel
theorem dX10_isRoutine_11 : decode cX10_isRoutine 11 = .ok (.invokestatic 83, 3) := by decide +kernel
theorem dX10_isRoutine_14 : decode cX10_isRoutine 14 = .ok (.ireturn, 1) := by decide +kernel
theorem dX10_isPointer_0 : decode cX10_isPointer 0 = .ok (.iload_n 0, 1) := by decide +kernel
theorem dX10_isPointer_1 : decode cX10_isPointer 1 = .ok (.iconst 0, 1) := by decide +kernel
theorem dX10_isPointer_2 : decode cX10_isPointer 2 = .ok (.bipush 7, 2) := by decide +kernel
theorem dX10_isPointer_4 : decode cX10_isPointer 4 = .ok (.invokestatic 83, 3) := by decide +kernel
theorem dX10_isPointer_7 : decode cX10_isPointer 7 = .ok (.ireturn, 1) := by decide +kernel
theorem dX10_isTask_0 : decode cX10_isTask 0 = .ok (.iload_n 1, 1) := by decide +kernel
theorem dX10_isTask_1 : decode cX10_isTask 1 = .ok (.iconst 0, 1) := by decide +kernel
theorem dX10_isTask_2 : decode cX10_isTask 2 = .ok (.aload_n 0, 1) := by decide +kernel
theorem dX10_isTask_3 : decode cX10_isTask 3 = .ok (.getfield 58, 3) := by decide +kernel
theorem dX10_isTask_6 : decode cX10_isTask 6 = .ok (.getfield 202, 3) := by decide +kernel
theorem dX10_isTask_9 : decode cX10_isTask 9 = .ok (.iconst 1, 1) := by decide +kernel
theorem dX10_isTask_10 : decode cX10_isTask 10 = .ok (.isub, 1) := by decide +kernel
theorem dX10_isTask_11 : decode cX10_isTask 11 = .ok (.invokestatic 83, 3) := by decide +kernel
theorem dX10_isTask_14 : decode cX10_isTask 14 = .ok (.ireturn, 1) := by decide +kernel
theorem dX10_isSheet_0 : decode cX10_isSheet 0 = .ok (.iload_n 0, 1) := by decide +kernel
theorem dX10_isSheet_1 : decode cX10_isSheet 1 = .ok (.iconst 0, 1) := by decide +kernel
theorem dX10_isSheet_2 : decode cX10_isSheet 2 = .ok (.iconst 3, 1) := by decide +kernel
theorem dX10_isSheet_3 : decode cX10_isSheet 3 = .ok (.invokestatic 83, 3) := by decide +kernel
theorem dX10_isSheet_6 : decode cX10_isSheet 6 = .ok (.ireturn, 1) := by decide +kernel
theorem dX10_isLane_0 : decode cX10_isLane 0 = .ok (.iload_n 0, 1) := by decide +kernel
theorem dX10_isLane_1 : decode cX10_isLane 1 = .ok (.iconst 0, 1) := by decide +kernel
theorem dX10_isLane_2 : decode cX10_isLane 2 = .ok (.iconst 2, 1) := by decide +kernel
theorem dX10_isLane_3 : decode cX10_isLane 3 = .ok (.invokestatic 83, 3) := by decide +kernel
theorem dX10_isLane_6 : decode cX10_isLane 6 = .ok (.ireturn, 1) := by decide +kernel
theorem dX10_within_0 : decode cX10_within 0 = .ok (.iload_n 0, 1) := by decide +kernel
theorem dX10_within_1 : decode cX10_within 1 = .ok (.iload_n 1, 1) := by decide +kernel
theorem dX10_within_2 : decode cX10_within 2 = .ok (.if_icmp .lt 12, 3) := by decide +kernel
theorem dX10_within_5 : decode cX10_within 5 = .ok (.iload_n 0, 1) := by decide +kernel
theorem dX10_within_6 : decode cX10_within 6 = .ok (.iload_n 2, 1) := by decide +kernel
theorem dX10_within_7 : decode cX10_within 7 = .ok (.if_icmp .gt 7, 3) := by decide +kernel
theorem dX10_within_10 : decode cX10_within 10 = .ok (.iconst 1, 1) := by decide +kernel
theorem dX10_within_11 : decode cX10_within 11 = .ok (.goto 4, 3) := by decide +kernel
theorem dX10_within_14 : decode cX10_within 14 = .ok (.iconst 0, 1) := by decide +kernel
theorem dX10_within_15 : decode cX10_within 15 = .ok (.ireturn, 1) := by decide +kernel
theorem dX10_holds_0 : decode cX10_holds 0 = .ok (.iload_n 0, 1) := by decide +kernel
theorem dX10_holds_1 : decode cX10_holds 1 = .ok (.iload_n 1, 1) := by decide +kernel
theorem dX10_holds_2 : decode cX10_holds 2 = .ok (.ishr, 1) := by decide +kernel
theorem dX10_holds_3 : decode cX10_holds 3 = .ok (.iconst 1, 1) := by decide +kernel
theorem dX10_holds_4 : decode cX10_holds 4 = .ok (.iand, 1) := by decide +kernel
theorem dX10_holds_5 : decode cX10_holds 5 = .ok (.ifCond .eq 7, 3) := by decide +kernel
theorem dX10_holds_8 : decode cX10_holds 8 = .ok (.iconst 1, 1) := by decide +kernel
theorem dX10_holds_9 : decode cX10_holds 9 = .ok (.goto 4, 3) := by decide +kernel
theorem dX10_holds_12 : decode cX10_holds 12 = .ok (.iconst 0, 1) := by decide +kernel
theorem dX10_holds_13 : decode cX10_holds 13 = .ok (.ireturn, 1) := by decide +kernel
theorem dX10_leastOf_0 : decode cX10_leastOf 0 = .ok (.iconst 0, 1) := by decide +kernel
theorem dX10_leastOf_1 : decode cX10_leastOf 1 = .ok (.istore_n 1, 1) := by decide +kernel
theorem dX10_leastOf_2 : decode cX10_leastOf 2 = .ok (.iload_n 1, 1) := by decide +kernel
theorem dX10_leastOf_3 : decode cX10_leastOf 3 = .ok (.bipush 20, 2) := by decide +kernel
theorem dX10_leastOf_5 : decode cX10_leastOf 5 = .ok (.if_icmp .ge 19, 3) := by decide +kernel
theorem dX10_leastOf_8 : decode cX10_leastOf 8 = .ok (.iload_n 0, 1) := by decide +kernel
theorem dX10_leastOf_9 : decode cX10_leastOf 9 = .ok (.iload_n 1, 1) := by decide +kernel
theorem dX10_leastOf_10 : decode cX10_leastOf 10 = .ok (.invokestatic 136, 3) := by decide +kernel
theorem dX10_leastOf_13 : decode cX10_leastOf 13 = .ok (.ifCond .eq 5, 3) := by decide +kernel
theorem dX10_leastOf_16 : decode cX10_leastOf 16 = .ok (.iload_n 1, 1) := by decide +kernel
theorem dX10_leastOf_17 : decode cX10_leastOf 17 = .ok (.ireturn, 1) := by decide +kernel
theorem dX10_leastOf_18 : decode cX10_leastOf 18 = .ok (.iinc 1 1, 3) := by decide +kernel
theorem dX10_leastOf_21 : decode cX10_leastOf 21 = .ok (.goto (-19), 3) := by decide +kernel
theorem dX10_leastOf_24 : decode cX10_leastOf 24 = .ok (.bipush (-4), 2) := by decide +kernel
theorem dX10_leastOf_26 : decode cX10_leastOf 26 = .ok (.ireturn, 1) := by decide +kernel
theorem dX10_plus_0 : decode cX10_plus 0 = .ok (.iload_n 0, 1) := by decide +kernel
theorem dX10_plus_1 : decode cX10_plus 1 = .ok (.bipush (-5), 2) := by decide +kernel
theorem dX10_plus_3 : decode cX10_plus 3 = .ok (.if_icmp .eq 9, 3) := by decide +kernel
theorem dX10_plus_6 : decode cX10_plus 6 = .ok (.iload_n 1, 1) := by decide +kernel
theorem dX10_plus_7 : decode cX10_plus 7 = .ok (.bipush (-5), 2) := by decide +kernel
theorem dX10_plus_9 : decode cX10_plus 9 = .ok (.if_icmp .ne 8, 3) := by decide +kernel
theorem dX10_plus_12 : decode cX10_plus 12 = .ok (.bipush (-5), 2) := by decide +kernel
theorem dX10_plus_14 : decode cX10_plus 14 = .ok (.goto 6, 3) := by decide +kernel
theorem dX10_plus_17 : decode cX10_plus 17 = .ok (.iload_n 0, 1) := by decide +kernel
theorem dX10_plus_18 : decode cX10_plus 18 = .ok (.iload_n 1, 1) := by decide +kernel
theorem dX10_plus_19 : decode cX10_plus 19 = .ok (.iadd, 1) := by decide +kernel
theorem dX10_plus_20 : decode cX10_plus 20 = .ok (.ireturn, 1) := by decide +kernel
theorem dX10_greater_0 : decode cX10_greater 0 = .ok (.iload_n 0, 1) := by decide +kernel
theorem dX10_greater_1 : decode cX10_greater 1 = .ok (.bipush (-5), 2) := by decide +kernel
theorem dX10_greater_3 : decode cX10_greater 3 = .ok (.if_icmp .eq 9, 3) := by decide +kernel
theorem dX10_greater_6 : decode cX10_greater 6 = .ok (.iload_n 1, 1) := by decide +kernel
theorem dX10_greater_7 : decode cX10_greater 7 = .ok (.bipush (-5), 2) := by decide +kernel
theorem dX10_greater_9 : decode cX10_greater 9 = .ok (.if_icmp .ne 6, 3) := by decide +kernel
theorem dX10_greater_12 : decode cX10_greater 12 = .ok (.bipush (-5), 2) := by decide +kernel
theorem dX10_greater_14 : decode cX10_greater 14 = .ok (.ireturn, 1) := by decide +kernel
theorem dX10_greater_15 : decode cX10_greater 15 = .ok (.iload_n 0, 1) := by decide +kernel
theorem dX10_greater_16 : decode cX10_greater 16 = .ok (.iload_n 1, 1) := by decide +kernel
theorem dX10_greater_17 : decode cX10_greater 17 = .ok (.if_icmp .le 7, 3) := by decide +kernel
theorem dX10_greater_20 : decode cX10_greater 20 = .ok (.iload_n 0, 1) := by decide +kernel
theorem dX10_greater_21 : decode cX10_greater 21 = .ok (.goto 4, 3) := by decide +kernel
theorem dX10_greater_24 : decode cX10_greater 24 = .ok (.iload_n 1, 1) := by decide +kernel
theorem dX10_greater_25 : decode cX10_greater 25 = .ok (.ireturn, 1) := by decide +kernel
theorem dX10_kindOf_0 : decode cX10_kindOf 0 = .ok (.iload_n 0, 1) := by decide +kernel
theorem dX10_kindOf_1 : decode cX10_kindOf 1 = .ok (.ifCond .eq 7, 3) := by decide +kernel
theorem dX10_kindOf_4 : decode cX10_kindOf 4 = .ok (.iconst 2, 1) := by decide +kernel
theorem dX10_kindOf_5 : decode cX10_kindOf 5 = .ok (.goto 4, 3) := by decide +kernel
theorem dX10_kindOf_8 : decode cX10_kindOf 8 = .ok (.iconst 0, 1) := by decide +kernel
theorem dX10_kindOf_9 : decode cX10_kindOf 9 = .ok (.iload_n 1, 1) := by decide +kernel
theorem dX10_kindOf_10 : decode cX10_kindOf 10 = .ok (.ifCond .eq 7, 3) := by decide +kernel
theorem dX10_kindOf_13 : decode cX10_kindOf 13 = .ok (.iconst 1, 1) := by decide +kernel
theorem dX10_kindOf_14 : decode cX10_kindOf 14 = .ok (.goto 4, 3) := by decide +kernel
theorem dX10_kindOf_17 : decode cX10_kindOf 17 = .ok (.iconst 0, 1) := by decide +kernel
theorem dX10_kindOf_18 : decode cX10_kindOf 18 = .ok (.iadd, 1) := by decide +kernel
theorem dX10_kindOf_19 : decode cX10_kindOf 19 = .ok (.ireturn, 1) := by decide +kernel
theorem dX10_canBeCall_0 : decode cX10_canBeCall 0 = .ok (.aload_n 0, 1) := by decide +kernel
theorem dX10_canBeCall_1 : decode cX10_canBeCall 1 = .ok (.iload_n 1, 1) := by decide +kernel
theorem dX10_canBeCall_2 : decode cX10_canBeCall 2 = .ok (.invokevirtual 98, 3) := by decide +kernel
theorem dX10_canBeCall_5 : decode cX10_canBeCall 5 = .ok (.ifCond .eq 12, 3) := by decide +kernel
theorem dX10_canBeCall_8 : decode cX10_canBeCall 8 = .ok (.iload_n 3, 1) := by decide +kernel
theorem dX10_canBeCall_9 : decode cX10_canBeCall 9 = .ok (.iconst 0, 1) := by decide +kernel
theorem dX10_canBeCall_10 : decode cX10_canBeCall 10 = .ok (.iconst 3, 1) := by decide +kernel
theorem dX10_canBeCall_11 : decode cX10_canBeCall 11 = .ok (.invokestatic 83, 3) := by decide +kernel
theorem dX10_canBeCall_14 : decode cX10_canBeCall 14 = .ok (.ifCond .ne 5, 3) := by decide +kernel
theorem dX10_canBeCall_17 : decode cX10_canBeCall 17 = .ok (.iconst 0, 1) := by decide +kernel
theorem dX10_canBeCall_18 : decode cX10_canBeCall 18 = .ok (.ireturn, 1) := by decide +kernel
theorem dX10_canBeCall_19 : decode cX10_canBeCall 19 = .ok (.iload_n 3, 1) := by decide +kernel
theorem dX10_canBeCall_20 : decode cX10_canBeCall 20 = .ok (.iconst 2, 1) := by decide +kernel
theorem dX10_canBeCall_21 : decode cX10_canBeCall 21 = .ok (.iand, 1) := by decide +kernel
theorem dX10_canBeCall_22 : decode cX10_canBeCall 22 = .ok (.ifCond .eq 10, 3) := by decide +kernel
theorem dX10_canBeCall_25 : decode cX10_canBeCall 25 = .ok (.iload_n 2, 1) := by decide +kernel
theorem dX10_canBeCall_26 : decode cX10_canBeCall 26 = .ok (.invokestatic 130, 3) := by decide +kernel
theorem dX10_canBeCall_29 : decode cX10_canBeCall 29 = .ok (.goto 8, 3) := by decide +kernel
theorem dX10_canBeCall_32 : decode cX10_canBeCall 32 = .ok (.aload_n 0, 1) := by decide +kernel
theorem dX10_canBeCall_33 : decode cX10_canBeCall 33 = .ok (.iload_n 2, 1) := by decide +kernel
theorem dX10_canBeCall_34 : decode cX10_canBeCall 34 = .ok (.invokevirtual 98, 3) := by decide +kernel
theorem dX10_canBeCall_37 : decode cX10_canBeCall 37 = .ok (.ireturn, 1) := by decide +kernel
theorem dX10_refusalOfCall_0 : decode cX10_refusalOfCall 0 = .ok (.aload_n 0, 1) := by decide +kernel
theorem dX10_refusalOfCall_1 : decode cX10_refusalOfCall 1 = .ok (.iload_n 1, 1) := by decide +kernel
theorem dX10_refusalOfCall_2 : decode cX10_refusalOfCall 2 = .ok (.iload_n 2, 1) := by decide +kernel
theorem dX10_refusalOfCall_3 : decode cX10_refusalOfCall 3 = .ok (.iload_n 3, 1) := by decide +kernel
theorem dX10_refusalOfCall_4 : decode cX10_refusalOfCall 4 = .ok (.invokevirtual 121, 3) := by decide +kernel
theorem dX10_refusalOfCall_7 : decode cX10_refusalOfCall 7 = .ok (.ifCond .ne 5, 3) := by decide +kernel
theorem dX10_refusalOfCall_10 : decode cX10_refusalOfCall 10 = .ok (.iconst (-1), 1) := by decide +kernel
theorem dX10_refusalOfCall_11 : decode cX10_refusalOfCall 11 = .ok (.ireturn, 1) := by decide +kernel
theorem dX10_refusalOfCall_12 : decode cX10_refusalOfCall 12 = .ok (.aload_n 0, 1) := by decide +kernel
theorem dX10_refusalOfCall_13 : decode cX10_refusalOfCall 13 = .ok (.getfield 26, 3) := by decide +kernel
theorem dX10_refusalOfCall_16 : decode cX10_refusalOfCall 16 = .ok (.iload_n 1, 1) := by decide +kernel
theorem dX10_refusalOfCall_17 : decode cX10_refusalOfCall 17 = .ok (.iload_n 2, 1) := by decide +kernel
theorem dX10_refusalOfCall_18 : decode cX10_refusalOfCall 18 = .ok (.iload_n 3, 1) := by decide +kernel
theorem dX10_refusalOfCall_19 : decode cX10_refusalOfCall 19 = .ok (.invokevirtual 124, 3) := by decide +kernel
theorem dX10_refusalOfCall_22 : decode cX10_refusalOfCall 22 = .ok (.ifCond .eq 6, 3) := by decide +kernel
theorem dX10_refusalOfCall_25 : decode cX10_refusalOfCall 25 = .ok (.bipush (-2), 2) := by decide +kernel
theorem dX10_refusalOfCall_27 : decode cX10_refusalOfCall 27 = .ok (.ireturn, 1) := by decide +kernel
theorem dX10_refusalOfCall_28 : decode cX10_refusalOfCall 28 = .ok (.aload_n 0, 1) := by decide +kernel
theorem dX10_refusalOfCall_29 : decode cX10_refusalOfCall 29 = .ok (.getfield 26, 3) := by decide +kernel
theorem dX10_refusalOfCall_32 : decode cX10_refusalOfCall 32 = .ok (.getfield 120, 3) := by decide +kernel
theorem dX10_refusalOfCall_35 : decode cX10_refusalOfCall 35 = .ok (.bipush 60, 2) := by decide +kernel
theorem dX10_refusalOfCall_37 : decode cX10_refusalOfCall 37 = .ok (.if_icmp .lt 8, 3) := by decide +kernel
theorem dX10_refusalOfCall_40 : decode cX10_refusalOfCall 40 = .ok (.bipush (-3), 2) := by decide +kernel
theorem dX10_refusalOfCall_42 : decode cX10_refusalOfCall 42 = .ok (.goto 4, 3) := by decide +kernel
theorem dX10_refusalOfCall_45 : decode cX10_refusalOfCall 45 = .ok (.iconst 0, 1) := by decide +kernel
theorem dX10_refusalOfCall_46 : decode cX10_refusalOfCall 46 = .ok (.ireturn, 1) := by decide +kernel
theorem dX10_addFromSheet_0 : decode cX10_addFromSheet 0 = .ok (.aload_n 1, 1) := by decide +kernel
theorem dX10_addFromSheet_1 : decode cX10_addFromSheet 1 = .ok (.iload_n 2, 1) := by decide +kernel
theorem dX10_addFromSheet_2 : decode cX10_addFromSheet 2 = .ok (.iload_n 3, 1) := by decide +kernel
theorem dX10_addFromSheet_3 : decode cX10_addFromSheet 3 = .ok (.invokevirtual 317, 3) := by decide +kernel
theorem dX10_addFromSheet_6 : decode cX10_addFromSheet 6 = .ok (.ifCond .ne 6, 3) := by decide +kernel
theorem dX10_addFromSheet_9 : decode cX10_addFromSheet 9 = .ok (.bipush (-12), 2) := by decide +kernel
theorem dX10_addFromSheet_11 : decode cX10_addFromSheet 11 = .ok (.ireturn, 1) := by decide +kernel
theorem dX10_addFromSheet_12 : decode cX10_addFromSheet 12 = .ok (.iload_n 2, 1) := by decide +kernel
theorem dX10_addFromSheet_13 : decode cX10_addFromSheet 13 = .ok (.iconst 3, 1) := by decide +kernel
theorem dX10_addFromSheet_14 : decode cX10_addFromSheet 14 = .ok (.iload_n 3, 1) := by decide +kernel
theorem dX10_addFromSheet_15 : decode cX10_addFromSheet 15 = .ok (.imul, 1) := by decide +kernel
theorem dX10_addFromSheet_16 : decode cX10_addFromSheet 16 = .ok (.iadd, 1) := by decide +kernel
theorem dX10_addFromSheet_17 : decode cX10_addFromSheet 17 = .ok (.istore 4, 2) := by decide +kernel
theorem dX10_addFromSheet_19 : decode cX10_addFromSheet 19 = .ok (.aload_n 1, 1) := by decide +kernel
theorem dX10_addFromSheet_20 : decode cX10_addFromSheet 20 = .ok (.getfield 320, 3) := by decide +kernel
theorem dX10_addFromSheet_23 : decode cX10_addFromSheet 23 = .ok (.iload 4, 2) := by decide +kernel
theorem dX10_addFromSheet_25 : decode cX10_addFromSheet 25 = .ok (.iaload, 1) := by decide +kernel
theorem dX10_addFromSheet_26 : decode cX10_addFromSheet 26 = .ok (.istore 5, 2) := by decide +kernel
theorem dX10_addFromSheet_28 : decode cX10_addFromSheet 28 = .ok (.aload_n 1, 1) := by decide +kernel
theorem dX10_addFromSheet_29 : decode cX10_addFromSheet 29 = .ok (.getfield 320, 3) := by decide +kernel
theorem dX10_addFromSheet_32 : decode cX10_addFromSheet 32 = .ok (.iload 4, 2) := by decide +kernel
theorem dX10_addFromSheet_34 : decode cX10_addFromSheet 34 = .ok (.iconst 1, 1) := by decide +kernel
theorem dX10_addFromSheet_35 : decode cX10_addFromSheet 35 = .ok (.iadd, 1) := by decide +kernel
theorem dX10_addFromSheet_36 : decode cX10_addFromSheet 36 = .ok (.iaload, 1) := by decide +kernel
theorem dX10_addFromSheet_37 : decode cX10_addFromSheet 37 = .ok (.istore 6, 2) := by decide +kernel
theorem dX10_addFromSheet_39 : decode cX10_addFromSheet 39 = .ok (.aload_n 1, 1) := by decide +kernel
theorem dX10_addFromSheet_40 : decode cX10_addFromSheet 40 = .ok (.getfield 320, 3) := by decide +kernel
theorem dX10_addFromSheet_43 : decode cX10_addFromSheet 43 = .ok (.iload 4, 2) := by decide +kernel
theorem dX10_addFromSheet_45 : decode cX10_addFromSheet 45 = .ok (.iconst 2, 1) := by decide +kernel
theorem dX10_addFromSheet_46 : decode cX10_addFromSheet 46 = .ok (.iadd, 1) := by decide +kernel
theorem dX10_addFromSheet_47 : decode cX10_addFromSheet 47 = .ok (.iaload, 1) := by decide +kernel
theorem dX10_addFromSheet_48 : decode cX10_addFromSheet 48 = .ok (.istore 7, 2) := by decide +kernel
theorem dX10_addFromSheet_50 : decode cX10_addFromSheet 50 = .ok (.aload_n 0, 1) := by decide +kernel
theorem dX10_addFromSheet_51 : decode cX10_addFromSheet 51 = .ok (.iload 5, 2) := by decide +kernel
theorem dX10_addFromSheet_53 : decode cX10_addFromSheet 53 = .ok (.iload 6, 2) := by decide +kernel
theorem dX10_addFromSheet_55 : decode cX10_addFromSheet 55 = .ok (.iload 7, 2) := by decide +kernel
theorem dX10_addFromSheet_57 : decode cX10_addFromSheet 57 = .ok (.invokevirtual 113, 3) := by decide +kernel
theorem dX10_addFromSheet_60 : decode cX10_addFromSheet 60 = .ok (.istore 8, 2) := by decide +kernel
theorem dX10_addFromSheet_62 : decode cX10_addFromSheet 62 = .ok (.iload 8, 2) := by decide +kernel
theorem dX10_addFromSheet_64 : decode cX10_addFromSheet 64 = .ok (.ifCond .eq 9, 3) := by decide +kernel
theorem dX10_addFromSheet_67 : decode cX10_addFromSheet 67 = .ok (.bipush (-20), 2) := by decide +kernel
theorem dX10_addFromSheet_69 : decode cX10_addFromSheet 69 = .ok (.iload 8, 2) := by decide +kernel
theorem dX10_addFromSheet_71 : decode cX10_addFromSheet 71 = .ok (.iadd, 1) := by decide +kernel
theorem dX10_addFromSheet_72 : decode cX10_addFromSheet 72 = .ok (.ireturn, 1) := by decide +kernel
theorem dX10_addFromSheet_73 : decode cX10_addFromSheet 73 = .ok (.aload_n 0, 1) := by decide +kernel
theorem dX10_addFromSheet_74 : decode cX10_addFromSheet 74 = .ok (.getfield 26, 3) := by decide +kernel
theorem dX10_addFromSheet_77 : decode cX10_addFromSheet 77 = .ok (.iload 5, 2) := by decide +kernel
theorem dX10_addFromSheet_79 : decode cX10_addFromSheet 79 = .ok (.iload 6, 2) := by decide +kernel
theorem dX10_addFromSheet_81 : decode cX10_addFromSheet 81 = .ok (.iload 7, 2) := by decide +kernel
theorem dX10_addFromSheet_83 : decode cX10_addFromSheet 83 = .ok (.invokevirtual 117, 3) := by decide +kernel
theorem dX10_addFromSheet_86 : decode cX10_addFromSheet 86 = .ok (.iconst 0, 1) := by decide +kernel
theorem dX10_addFromSheet_87 : decode cX10_addFromSheet 87 = .ok (.ireturn, 1) := by decide +kernel
theorem dX10_removeFromSheet_0 : decode cX10_removeFromSheet 0 = .ok (.iconst 0, 1) := by decide +kernel
theorem dX10_removeFromSheet_1 : decode cX10_removeFromSheet 1 = .ok (.istore 4, 2) := by decide +kernel
theorem dX10_removeFromSheet_3 : decode cX10_removeFromSheet 3 = .ok (.iload 4, 2) := by decide +kernel
theorem dX10_removeFromSheet_5 : decode cX10_removeFromSheet 5 = .ok (.iload_n 3, 1) := by decide +kernel
theorem dX10_removeFromSheet_6 : decode cX10_removeFromSheet 6 = .ok (.if_icmp .ge 49, 3) := by decide +kernel
theorem dX10_removeFromSheet_9 : decode cX10_removeFromSheet 9 = .ok (.iload_n 2, 1) := by decide +kernel
theorem dX10_removeFromSheet_10 : decode cX10_removeFromSheet 10 = .ok (.iconst 3, 1) := by decide +kernel
theorem dX10_removeFromSheet_11 : decode cX10_removeFromSheet 11 = .ok (.iload 4, 2) := by decide +kernel
theorem dX10_removeFromSheet_13 : decode cX10_removeFromSheet 13 = .ok (.imul, 1) := by decide +kernel
theorem dX10_removeFromSheet_14 : decode cX10_removeFromSheet 14 = .ok (.iadd, 1) := by decide +kernel
theorem dX10_removeFromSheet_15 : decode cX10_removeFromSheet 15 = .ok (.istore 5, 2) := by decide +kernel
theorem dX10_removeFromSheet_17 : decode cX10_removeFromSheet 17 = .ok (.aload_n 0, 1) := by decide +kernel
theorem dX10_removeFromSheet_18 : decode cX10_removeFromSheet 18 = .ok (.getfield 26, 3) := by decide +kernel
theorem dX10_removeFromSheet_21 : decode cX10_removeFromSheet 21 = .ok (.aload_n 1, 1) := by decide +kernel
theorem dX10_removeFromSheet_22 : decode cX10_removeFromSheet 22 = .ok (.getfield 320, 3) := by decide +kernel
theorem dX10_removeFromSheet_25 : decode cX10_removeFromSheet 25 = .ok (.iload 5, 2) := by decide +kernel
theorem dX10_removeFromSheet_27 : decode cX10_removeFromSheet 27 = .ok (.iaload, 1) := by decide +kernel
theorem dX10_removeFromSheet_28 : decode cX10_removeFromSheet 28 = .ok (.aload_n 1, 1) := by decide +kernel
theorem dX10_removeFromSheet_29 : decode cX10_removeFromSheet 29 = .ok (.getfield 320, 3) := by decide +kernel
theorem dX10_removeFromSheet_32 : decode cX10_removeFromSheet 32 = .ok (.iload 5, 2) := by decide +kernel
theorem dX10_removeFromSheet_34 : decode cX10_removeFromSheet 34 = .ok (.iconst 1, 1) := by decide +kernel
theorem dX10_removeFromSheet_35 : decode cX10_removeFromSheet 35 = .ok (.iadd, 1) := by decide +kernel
theorem dX10_removeFromSheet_36 : decode cX10_removeFromSheet 36 = .ok (.iaload, 1) := by decide +kernel
theorem dX10_removeFromSheet_37 : decode cX10_removeFromSheet 37 = .ok (.aload_n 1, 1) := by decide +kernel
theorem dX10_removeFromSheet_38 : decode cX10_removeFromSheet 38 = .ok (.getfield 320, 3) := by decide +kernel
theorem dX10_removeFromSheet_41 : decode cX10_removeFromSheet 41 = .ok (.iload 5, 2) := by decide +kernel
theorem dX10_removeFromSheet_43 : decode cX10_removeFromSheet 43 = .ok (.iconst 2, 1) := by decide +kernel
theorem dX10_removeFromSheet_44 : decode cX10_removeFromSheet 44 = .ok (.iadd, 1) := by decide +kernel
theorem dX10_removeFromSheet_45 : decode cX10_removeFromSheet 45 = .ok (.iaload, 1) := by decide +kernel
theorem dX10_removeFromSheet_46 : decode cX10_removeFromSheet 46 = .ok (.invokevirtual 127, 3) := by decide +kernel
theorem dX10_removeFromSheet_49 : decode cX10_removeFromSheet 49 = .ok (.iinc 4 1, 3) := by decide +kernel
theorem dX10_removeFromSheet_52 : decode cX10_removeFromSheet 52 = .ok (.goto (-49), 3) := by decide +kernel
theorem dX10_removeFromSheet_55 : decode cX10_removeFromSheet 55 = .ok (.return_, 1) := by decide +kernel
theorem dX10_totalAsMeasured_0 : decode cX10_totalAsMeasured 0 = .ok (.aload_n 0, 1) := by decide +kernel
theorem dX10_totalAsMeasured_1 : decode cX10_totalAsMeasured 1 = .ok (.getfield 44, 3) := by decide +kernel
theorem dX10_totalAsMeasured_4 : decode cX10_totalAsMeasured 4 = .ok (.getfield 180, 3) := by decide +kernel
theorem dX10_totalAsMeasured_7 : decode cX10_totalAsMeasured 7 = .ok (.aload_n 0, 1) := by decide +kernel
theorem dX10_totalAsMeasured_8 : decode cX10_totalAsMeasured 8 = .ok (.getfield 58, 3) := by decide +kernel
theorem dX10_totalAsMeasured_11 : decode cX10_totalAsMeasured 11 = .ok (.getfield 207, 3) := by decide +kernel
theorem dX10_totalAsMeasured_14 : decode cX10_totalAsMeasured 14 = .ok (.iload_n 1, 1) := by decide +kernel
theorem dX10_totalAsMeasured_15 : decode cX10_totalAsMeasured 15 = .ok (.iaload, 1) := by decide +kernel
theorem dX10_totalAsMeasured_16 : decode cX10_totalAsMeasured 16 = .ok (.iaload, 1) := by decide +kernel
theorem dX10_totalAsMeasured_17 : decode cX10_totalAsMeasured 17 = .ok (.aload_n 0, 1) := by decide +kernel
theorem dX10_totalAsMeasured_18 : decode cX10_totalAsMeasured 18 = .ok (.getfield 51, 3) := by decide +kernel
theorem dX10_totalAsMeasured_21 : decode cX10_totalAsMeasured 21 = .ok (.aload_n 0, 1) := by decide +kernel
theorem dX10_totalAsMeasured_22 : decode cX10_totalAsMeasured 22 = .ok (.getfield 58, 3) := by decide +kernel
theorem dX10_totalAsMeasured_25 : decode cX10_totalAsMeasured 25 = .ok (.getfield 209, 3) := by decide +kernel
theorem dX10_totalAsMeasured_28 : decode cX10_totalAsMeasured 28 = .ok (.iload_n 1, 1) := by decide +kernel
theorem dX10_totalAsMeasured_29 : decode cX10_totalAsMeasured 29 = .ok (.iaload, 1) := by decide +kernel
theorem dX10_totalAsMeasured_30 : decode cX10_totalAsMeasured 30 = .ok (.aload_n 0, 1) := by decide +kernel
theorem dX10_totalAsMeasured_31 : decode cX10_totalAsMeasured 31 = .ok (.getfield 44, 3) := by decide +kernel
theorem dX10_totalAsMeasured_34 : decode cX10_totalAsMeasured 34 = .ok (.getfield 180, 3) := by decide +kernel
theorem dX10_totalAsMeasured_37 : decode cX10_totalAsMeasured 37 = .ok (.invokevirtual 212, 3) := by decide +kernel
theorem dX10_totalAsMeasured_40 : decode cX10_totalAsMeasured 40 = .ok (.invokestatic 323, 3) := by decide +kernel
theorem dX10_totalAsMeasured_43 : decode cX10_totalAsMeasured 43 = .ok (.ireturn, 1) := by decide +kernel
theorem dX10_roomAsMeasured_0 : decode cX10_roomAsMeasured 0 = .ok (.aload_n 0, 1) := by decide +kernel
theorem dX10_roomAsMeasured_1 : decode cX10_roomAsMeasured 1 = .ok (.iload_n 1, 1) := by decide +kernel
theorem dX10_roomAsMeasured_2 : decode cX10_roomAsMeasured 2 = .ok (.invokevirtual 216, 3) := by decide +kernel
theorem dX10_roomAsMeasured_5 : decode cX10_roomAsMeasured 5 = .ok (.aload_n 0, 1) := by decide +kernel
theorem dX10_roomAsMeasured_6 : decode cX10_roomAsMeasured 6 = .ok (.getfield 58, 3) := by decide +kernel
theorem dX10_roomAsMeasured_9 : decode cX10_roomAsMeasured 9 = .ok (.getfield 326, 3) := by decide +kernel
theorem dX10_roomAsMeasured_12 : decode cX10_roomAsMeasured 12 = .ok (.iload_n 1, 1) := by decide +kernel
theorem dX10_roomAsMeasured_13 : decode cX10_roomAsMeasured 13 = .ok (.iaload, 1) := by decide +kernel
theorem dX10_roomAsMeasured_14 : decode cX10_roomAsMeasured 14 = .ok (.invokestatic 323, 3) := by decide +kernel
theorem dX10_roomAsMeasured_17 : decode cX10_roomAsMeasured 17 = .ok (.ireturn, 1) := by decide +kernel
theorem dX10_totalWithout_0 : decode cX10_totalWithout 0 = .ok (.aload_n 0, 1) := by decide +kernel
theorem dX10_totalWithout_1 : decode cX10_totalWithout 1 = .ok (.getfield 44, 3) := by decide +kernel
theorem dX10_totalWithout_4 : decode cX10_totalWithout 4 = .ok (.iload_n 2, 1) := by decide +kernel
theorem dX10_totalWithout_5 : decode cX10_totalWithout 5 = .ok (.invokevirtual 176, 3) := by decide +kernel
theorem dX10_totalWithout_8 : decode cX10_totalWithout 8 = .ok (.aload_n 0, 1) := by decide +kernel
theorem dX10_totalWithout_9 : decode cX10_totalWithout 9 = .ok (.iload_n 1, 1) := by decide +kernel
theorem dX10_totalWithout_10 : decode cX10_totalWithout 10 = .ok (.invokevirtual 216, 3) := by decide +kernel
theorem dX10_totalWithout_13 : decode cX10_totalWithout 13 = .ok (.ireturn, 1) := by decide +kernel
theorem dX10_shareRooms_0 : decode cX10_shareRooms 0 = .ok (.aload_n 0, 1) := by decide +kernel
theorem dX10_shareRooms_1 : decode cX10_shareRooms 1 = .ok (.getfield 44, 3) := by decide +kernel
theorem dX10_shareRooms_4 : decode cX10_shareRooms 4 = .ok (.iconst (-1), 1) := by decide +kernel
theorem dX10_shareRooms_5 : decode cX10_shareRooms 5 = .ok (.invokevirtual 176, 3) := by decide +kernel
theorem dX10_shareRooms_8 : decode cX10_shareRooms 8 = .ok (.iconst 0, 1) := by decide +kernel
theorem dX10_shareRooms_9 : decode cX10_shareRooms 9 = .ok (.istore_n 1, 1) := by decide +kernel
theorem dX10_shareRooms_10 : decode cX10_shareRooms 10 = .ok (.iload_n 1, 1) := by decide +kernel
theorem dX10_shareRooms_11 : decode cX10_shareRooms 11 = .ok (.aload_n 0, 1) := by decide +kernel
theorem dX10_shareRooms_12 : decode cX10_shareRooms 12 = .ok (.getfield 58, 3) := by decide +kernel
theorem dX10_shareRooms_15 : decode cX10_shareRooms 15 = .ok (.getfield 202, 3) := by decide +kernel
theorem dX10_shareRooms_18 : decode cX10_shareRooms 18 = .ok (.if_icmp .ge 34, 3) := by decide +kernel
theorem dX10_shareRooms_21 : decode cX10_shareRooms 21 = .ok (.aload_n 0, 1) := by decide +kernel
theorem dX10_shareRooms_22 : decode cX10_shareRooms 22 = .ok (.iload_n 1, 1) := by decide +kernel
theorem dX10_shareRooms_23 : decode cX10_shareRooms 23 = .ok (.invokevirtual 219, 3) := by decide +kernel
theorem dX10_shareRooms_26 : decode cX10_shareRooms 26 = .ok (.istore_n 2, 1) := by decide +kernel
theorem dX10_shareRooms_27 : decode cX10_shareRooms 27 = .ok (.iload_n 2, 1) := by decide +kernel
theorem dX10_shareRooms_28 : decode cX10_shareRooms 28 = .ok (.bipush (-5), 2) := by decide +kernel
theorem dX10_shareRooms_30 : decode cX10_shareRooms 30 = .ok (.if_icmp .ne 6, 3) := by decide +kernel
theorem dX10_shareRooms_33 : decode cX10_shareRooms 33 = .ok (.bipush (-5), 2) := by decide +kernel
theorem dX10_shareRooms_35 : decode cX10_shareRooms 35 = .ok (.ireturn, 1) := by decide +kernel
theorem dX10_shareRooms_36 : decode cX10_shareRooms 36 = .ok (.aload_n 0, 1) := by decide +kernel
theorem dX10_shareRooms_37 : decode cX10_shareRooms 37 = .ok (.getfield 65, 3) := by decide +kernel
theorem dX10_shareRooms_40 : decode cX10_shareRooms 40 = .ok (.getfield 329, 3) := by decide +kernel
theorem dX10_shareRooms_43 : decode cX10_shareRooms 43 = .ok (.iload_n 1, 1) := by decide +kernel
theorem dX10_shareRooms_44 : decode cX10_shareRooms 44 = .ok (.iload_n 2, 1) := by decide +kernel
theorem dX10_shareRooms_45 : decode cX10_shareRooms 45 = .ok (.iastore, 1) := by decide +kernel
theorem dX10_shareRooms_46 : decode cX10_shareRooms 46 = .ok (.iinc 1 1, 3) := by decide +kernel
theorem dX10_shareRooms_49 : decode cX10_shareRooms 49 = .ok (.goto (-39), 3) := by decide +kernel
theorem dX10_shareRooms_52 : decode cX10_shareRooms 52 = .ok (.aload_n 0, 1) := by decide +kernel
theorem dX10_shareRooms_53 : decode cX10_shareRooms 53 = .ok (.getfield 65, 3) := by decide +kernel
theorem dX10_shareRooms_56 : decode cX10_shareRooms 56 = .ok (.aload_n 0, 1) := by decide +kernel
theorem dX10_shareRooms_57 : decode cX10_shareRooms 57 = .ok (.getfield 58, 3) := by decide +kernel
theorem dX10_shareRooms_60 : decode cX10_shareRooms 60 = .ok (.invokevirtual 332, 3) := by decide +kernel
theorem dX10_shareRooms_63 : decode cX10_shareRooms 63 = .ok (.ireturn, 1) := by decide +kernel
theorem dX10_pushMarked_0 : decode cX10_pushMarked 0 = .ok (.aload_n 0, 1) := by decide +kernel
theorem dX10_pushMarked_1 : decode cX10_pushMarked 1 = .ok (.getfield 10, 3) := by decide +kernel
theorem dX10_pushMarked_4 : decode cX10_pushMarked 4 = .ok (.getfield 106, 3) := by decide +kernel
theorem dX10_pushMarked_7 : decode cX10_pushMarked 7 = .ok (.iload_n 1, 1) := by decide +kernel
theorem dX10_pushMarked_8 : decode cX10_pushMarked 8 = .ok (.iaload, 1) := by decide +kernel
theorem dX10_pushMarked_9 : decode cX10_pushMarked 9 = .ok (.istore_n 2, 1) := by decide +kernel
theorem dX10_pushMarked_10 : decode cX10_pushMarked 10 = .ok (.iload_n 2, 1) := by decide +kernel
theorem dX10_pushMarked_11 : decode cX10_pushMarked 11 = .ok (.ifCond .eq 28, 3) := by decide +kernel
theorem dX10_pushMarked_14 : decode cX10_pushMarked 14 = .ok (.aload_n 0, 1) := by decide +kernel
theorem dX10_pushMarked_15 : decode cX10_pushMarked 15 = .ok (.getfield 72, 3) := by decide +kernel
theorem dX10_pushMarked_18 : decode cX10_pushMarked 18 = .ok (.iload_n 1, 1) := by decide +kernel
theorem dX10_pushMarked_19 : decode cX10_pushMarked 19 = .ok (.invokevirtual 336, 3) := by decide +kernel
theorem dX10_pushMarked_22 : decode cX10_pushMarked 22 = .ok (.iload_n 2, 1) := by decide +kernel
theorem dX10_pushMarked_23 : decode cX10_pushMarked 23 = .ok (.if_icmp .lt 16, 3) := by decide +kernel
theorem dX10_pushMarked_26 : decode cX10_pushMarked 26 = .ok (.aload_n 0, 1) := by decide +kernel
theorem dX10_pushMarked_27 : decode cX10_pushMarked 27 = .ok (.getfield 72, 3) := by decide +kernel
theorem dX10_pushMarked_30 : decode cX10_pushMarked 30 = .ok (.dup, 1) := by decide +kernel
theorem dX10_pushMarked_31 : decode cX10_pushMarked 31 = .ok (.getfield 278, 3) := by decide +kernel
theorem dX10_pushMarked_34 : decode cX10_pushMarked 34 = .ok (.iconst 1, 1) := by decide +kernel
theorem dX10_pushMarked_35 : decode cX10_pushMarked 35 = .ok (.iadd, 1) := by decide +kernel
theorem dX10_pushMarked_36 : decode cX10_pushMarked 36 = .ok (.putfield 278, 3) := by decide +kernel
theorem dX10_pushMarked_39 : decode cX10_pushMarked 39 = .ok (.aload_n 0, 1) := by decide +kernel
theorem dX10_pushMarked_40 : decode cX10_pushMarked 40 = .ok (.getfield 72, 3) := by decide +kernel
theorem dX10_pushMarked_43 : decode cX10_pushMarked 43 = .ok (.iload_n 1, 1) := by decide +kernel
theorem dX10_pushMarked_44 : decode cX10_pushMarked 44 = .ok (.aload_n 0, 1) := by decide +kernel
theorem dX10_pushMarked_45 : decode cX10_pushMarked 45 = .ok (.getfield 10, 3) := by decide +kernel
theorem dX10_pushMarked_48 : decode cX10_pushMarked 48 = .ok (.getfield 102, 3) := by decide +kernel
theorem dX10_pushMarked_51 : decode cX10_pushMarked 51 = .ok (.iload_n 1, 1) := by decide +kernel
theorem dX10_pushMarked_52 : decode cX10_pushMarked 52 = .ok (.iaload, 1) := by decide +kernel
theorem dX10_pushMarked_53 : decode cX10_pushMarked 53 = .ok (.invokevirtual 241, 3) := by decide +kernel
theorem dX10_pushMarked_56 : decode cX10_pushMarked 56 = .ok (.aload_n 0, 1) := by decide +kernel
theorem dX10_pushMarked_57 : decode cX10_pushMarked 57 = .ok (.getfield 72, 3) := by decide +kernel
theorem dX10_pushMarked_60 : decode cX10_pushMarked 60 = .ok (.getfield 244, 3) := by decide +kernel
theorem dX10_pushMarked_63 : decode cX10_pushMarked 63 = .ok (.ireturn, 1) := by decide +kernel
theorem dX10_stayedWithinDepth_0 : decode cX10_stayedWithinDepth 0 = .ok (.aload_n 0, 1) := by decide +kernel
theorem dX10_stayedWithinDepth_1 : decode cX10_stayedWithinDepth 1 = .ok (.getfield 44, 3) := by decide +kernel
theorem dX10_stayedWithinDepth_4 : decode cX10_stayedWithinDepth 4 = .ok (.iconst (-1), 1) := by decide +kernel
theorem dX10_stayedWithinDepth_5 : decode cX10_stayedWithinDepth 5 = .ok (.invokevirtual 176, 3) := by decide +kernel
theorem dX10_stayedWithinDepth_8 : decode cX10_stayedWithinDepth 8 = .ok (.aload_n 0, 1) := by decide +kernel
theorem dX10_stayedWithinDepth_9 : decode cX10_stayedWithinDepth 9 = .ok (.getfield 44, 3) := by decide +kernel
theorem dX10_stayedWithinDepth_12 : decode cX10_stayedWithinDepth 12 = .ok (.getfield 180, 3) := by decide +kernel
theorem dX10_stayedWithinDepth_15 : decode cX10_stayedWithinDepth 15 = .ok (.aload_n 0, 1) := by decide +kernel
theorem dX10_stayedWithinDepth_16 : decode cX10_stayedWithinDepth 16 = .ok (.getfield 72, 3) := by decide +kernel
theorem dX10_stayedWithinDepth_19 : decode cX10_stayedWithinDepth 19 = .ok (.getfield 269, 3) := by decide +kernel
theorem dX10_stayedWithinDepth_22 : decode cX10_stayedWithinDepth 22 = .ok (.iaload, 1) := by decide +kernel
theorem dX10_stayedWithinDepth_23 : decode cX10_stayedWithinDepth 23 = .ok (.istore_n 1, 1) := by decide +kernel
theorem dX10_stayedWithinDepth_24 : decode cX10_stayedWithinDepth 24 = .ok (.iload_n 1, 1) := by decide +kernel
theorem dX10_stayedWithinDepth_25 : decode cX10_stayedWithinDepth 25 = .ok (.bipush (-5), 2) := by decide +kernel
theorem dX10_stayedWithinDepth_27 : decode cX10_stayedWithinDepth 27 = .ok (.if_icmp .eq 14, 3) := by decide +kernel
theorem dX10_stayedWithinDepth_30 : decode cX10_stayedWithinDepth 30 = .ok (.aload_n 0, 1) := by decide +kernel
theorem dX10_stayedWithinDepth_31 : decode cX10_stayedWithinDepth 31 = .ok (.getfield 72, 3) := by decide +kernel
theorem dX10_stayedWithinDepth_34 : decode cX10_stayedWithinDepth 34 = .ok (.getfield 272, 3) := by decide +kernel
theorem dX10_stayedWithinDepth_37 : decode cX10_stayedWithinDepth 37 = .ok (.iload_n 1, 1) := by decide +kernel
theorem dX10_stayedWithinDepth_38 : decode cX10_stayedWithinDepth 38 = .ok (.if_icmp .gt 7, 3) := by decide +kernel
theorem dX10_stayedWithinDepth_41 : decode cX10_stayedWithinDepth 41 = .ok (.iconst 1, 1) := by decide +kernel
theorem dX10_stayedWithinDepth_42 : decode cX10_stayedWithinDepth 42 = .ok (.goto 4, 3) := by decide +kernel
theorem dX10_stayedWithinDepth_45 : decode cX10_stayedWithinDepth 45 = .ok (.iconst 0, 1) := by decide +kernel
theorem dX10_stayedWithinDepth_46 : decode cX10_stayedWithinDepth 46 = .ok (.ireturn, 1) := by decide +kernel
