theorem dX11_init_0 : decode cX11_init 0 = .ok (.aload_n 0, 1) := by decide +kernel
theorem dX11_init_1 : decode cX11_init 1 = .ok (.invokespecial 1, 3) := by decide +kernel
theorem dX11_init_4 : decode cX11_init 4 = .ok (.aload_n 0, 1) := by decide +kernel
theorem dX11_init_5 : decode cX11_init 5 = .ok (.bipush 20, 2) := by decide +kernel
theorem dX11_init_7 : decode cX11_init 7 = .ok (.newarray .int, 2) := by decide +kernel
theorem dX11_init_9 : decode cX11_init 9 = .ok (.putfield 7, 3) := by decide +kernel
theorem dX11_init_12 : decode cX11_init 12 = .ok (.aload_n 0, 1) := by decide +kernel
theorem dX11_init_13 : decode cX11_init 13 = .ok (.bipush 20, 2) := by decide +kernel
theorem dX11_init_15 : decode cX11_init 15 = .ok (.newarray .int, 2) := by decide +kernel
theorem dX11_init_17 : decode cX11_init 17 = .ok (.putfield 13, 3) := by decide +kernel
theorem dX11_init_20 : decode cX11_init 20 = .ok (.aload_n 0, 1) := by decide +kernel
theorem dX11_init_21 : decode cX11_init 21 = .ok (.bipush 60, 2) := by decide +kernel
theorem dX11_init_23 : decode cX11_init 23 = .ok (.newarray .int, 2) := by decide +kernel
theorem dX11_init_25 : decode cX11_init 25 = .ok (.putfield 16, 3) := by decide +kernel
theorem dX11_init_28 : decode cX11_init 28 = .ok (.aload_n 0, 1) := by decide +kernel
theorem dX11_init_29 : decode cX11_init 29 = .ok (.bipush 60, 2) := by decide +kernel
theorem dX11_init_31 : decode cX11_init 31 = .ok (.newarray .int, 2) := by decide +kernel
theorem dX11_init_33 : decode cX11_init 33 = .ok (.putfield 19, 3) := by decide +kernel
theorem dX11_init_36 : decode cX11_init 36 = .ok (.aload_n 0, 1) := by decide +kernel
theorem dX11_init_37 : decode cX11_init 37 = .ok (.bipush 60, 2) := by decide +kernel
theorem dX11_init_39 : decode cX11_init 39 = .ok (.newarray .int, 2) := by decide +kernel
theorem dX11_init_41 : decode cX11_init 41 = .ok (.putfield 22, 3) := by decide +kernel
theorem dX11_init_44 : decode cX11_init 44 = .ok (.aload_n 0, 1) := by decide +kernel
theorem dX11_init_45 : decode cX11_init 45 = .ok (.bipush 8, 2) := by decide +kernel
theorem dX11_init_47 : decode cX11_init 47 = .ok (.newarray .int, 2) := by decide +kernel
theorem dX11_init_49 : decode cX11_init 49 = .ok (.putfield 25, 3) := by decide +kernel
theorem dX11_init_52 : decode cX11_init 52 = .ok (.aload_n 0, 1) := by decide +kernel
theorem dX11_init_53 : decode cX11_init 53 = .ok (.bipush 8, 2) := by decide +kernel
theorem dX11_init_55 : decode cX11_init 55 = .ok (.newarray .int, 2) := by decide +kernel
theorem dX11_init_57 : decode cX11_init 57 = .ok (.putfield 28, 3) := by decide +kernel
theorem dX11_init_60 : decode cX11_init 60 = .ok (.aload_n 0, 1) := by decide +kernel
theorem dX11_init_61 : decode cX11_init 61 = .ok (.bipush 8, 2) := by decide +kernel
theorem dX11_init_63 : decode cX11_init 63 = .ok (.newarray .int, 2) := by decide +kernel
theorem dX11_init_65 : decode cX11_init 65 = .ok (.putfield 31, 3) := by decide +kernel
theorem dX11_init_68 : decode cX11_init 68 = .ok (.aload_n 0, 1) := by decide +kernel
theorem dX11_init_69 : decode cX11_init 69 = .ok (.bipush 20, 2) := by decide +kernel
theorem dX11_init_71 : decode cX11_init 71 = .ok (.newarray .int, 2) := by decide +kernel
theorem dX11_init_73 : decode cX11_init 73 = .ok (.putfield 34, 3) := by decide +kernel
theorem dX11_init_76 : decode cX11_init 76 = .ok (.aload_n 0, 1) := by decide +kernel
theorem dX11_init_77 : decode cX11_init 77 = .ok (.bipush 20, 2) := by decide +kernel
theorem dX11_init_79 : decode cX11_init 79 = .ok (.newarray .int, 2) := by decide +kernel
theorem dX11_init_81 : decode cX11_init 81 = .ok (.putfield 37, 3) := by decide +kernel
theorem dX11_init_84 : decode cX11_init 84 = .ok (.aload_n 0, 1) := by decide +kernel
theorem dX11_init_85 : decode cX11_init 85 = .ok (.bipush 20, 2) := by decide +kernel
theorem dX11_init_87 : decode cX11_init 87 = .ok (.newarray .int, 2) := by decide +kernel
theorem dX11_init_89 : decode cX11_init 89 = .ok (.putfield 40, 3) := by decide +kernel
theorem dX11_init_92 : decode cX11_init 92 = .ok (.aload_n 0, 1) := by decide +kernel
theorem dX11_init_93 : decode cX11_init 93 = .ok (.bipush 20, 2) := by decide +kernel
theorem dX11_init_95 : decode cX11_init 95 = .ok (.newarray .int, 2) := by decide +kernel
theorem dX11_init_97 : decode cX11_init 97 = .ok (.putfield 43, 3) := by decide +kernel
theorem dX11_init_100 : decode cX11_init 100 = .ok (.aload_n 0, 1) := by decide +kernel
theorem dX11_init_101 : decode cX11_init 101 = .ok (.bipush 20, 2) := by decide +kernel
theorem dX11_init_103 : decode cX11_init 103 = .ok (.newarray .int, 2) := by decide +kernel
theorem dX11_init_105 : decode cX11_init 105 = .ok (.putfield 46, 3) := by decide +kernel
theorem dX11_init_108 : decode cX11_init 108 = .ok (.aload_n 0, 1) := by decide +kernel
theorem dX11_init_109 : decode cX11_init 109 = .ok (.bipush 8, 2) := by decide +kernel
theorem dX11_init_111 : decode cX11_init 111 = .ok (.newarray .int, 2) := by decide +kernel
theorem dX11_init_113 : decode cX11_init 113 = .ok (.putfield 49, 3) := by decide +kernel
theorem dX11_init_116 : decode cX11_init 116 = .ok (.aload_n 0, 1) := by decide +kernel
theorem dX11_init_117 : decode cX11_init 117 = .ok (.bipush 8, 2) := by decide +kernel
theorem dX11_init_119 : decode cX11_init 119 = .ok (.newarray .int, 2) := by decide +kernel
theorem dX11_init_121 : decode cX11_init 121 = .ok (.putfield 52, 3) := by decide +kernel
theorem dX11_init_124 : decode cX11_init 124 = .ok (.aload_n 0, 1) := by decide +kernel
theorem dX11_init_125 : decode cX11_init 125 = .ok (.bipush 8, 2) := by decide +kernel
theorem dX11_init_127 : decode cX11_init 127 = .ok (.newarray .int, 2) := by decide +kernel
theorem dX11_init_129 : decode cX11_init 129 = .ok (.putfield 55, 3) := by decide +kernel
theorem dX11_init_132 : decode cX11_init 132 = .ok (.aload_n 0, 1) := by decide +kernel
theorem dX11_init_133 : decode cX11_init 133 = .ok (.bipush 6, 2) := by decide +kernel
theorem dX11_init_135 : decode cX11_init 135 = .ok (.newarray .int, 2) := by decide +kernel
theorem dX11_init_137 : decode cX11_init 137 = .ok (.putfield 58, 3) := by decide +kernel
theorem dX11_init_140 : decode cX11_init 140 = .ok (.aload_n 0, 1) := by decide +kernel
theorem dX11_init_141 : decode cX11_init 141 = .ok (.bipush 6, 2) := by decide +kernel
theorem dX11_init_143 : decode cX11_init 143 = .ok (.newarray .int, 2) := by decide +kernel
theorem dX11_init_145 : decode cX11_init 145 = .ok (.putfield 61, 3) := by decide +kernel
theorem dX11_init_148 : decode cX11_init 148 = .ok (.aload_n 0, 1) := by decide +kernel
theorem dX11_init_149 : decode cX11_init 149 = .ok (.bipush 6, 2) := by decide +kernel
theorem dX11_init_151 : decode cX11_init 151 = .ok (.newarray .int, 2) := by decide +kernel
theorem dX11_init_153 : decode cX11_init 153 = .ok (.putfield 64, 3) := by decide +kernel
theorem dX11_init_156 : decode cX11_init 156 = .ok (.aload_n 0, 1) := by decide +kernel
theorem dX11_init_157 : decode cX11_init 157 = .ok (.bipush 6, 2) := by decide +kernel
theorem dX11_init_159 : decode cX11_init 159 = .ok (.newarray .int, 2) := by decide +kernel
theorem dX11_init_161 : decode cX11_init 161 = .ok (.putfield 67, 3) := by decide +kernel
theorem dX11_init_164 : decode cX11_init 164 = .ok (.aload_n 0, 1) := by decide +kernel
theorem dX11_init_165 : decode cX11_init 165 = .ok (.bipush 6, 2) := by decide +kernel
theorem dX11_init_167 : decode cX11_init 167 = .ok (.newarray .int, 2) := by decide +kernel
theorem dX11_init_169 : decode cX11_init 169 = .ok (.putfield 70, 3) := by decide +kernel
theorem dX11_init_172 : decode cX11_init 172 = .ok (.aload_n 0, 1) := by decide +kernel
theorem dX11_init_173 : decode cX11_init 173 = .ok (.bipush 6, 2) := by decide +kernel
theorem dX11_init_175 : decode cX11_init 175 = .ok (.newarray .int, 2) := by decide +kernel
theorem dX11_init_177 : decode cX11_init 177 = .ok (.putfield 73, 3) := by decide +kernel
theorem dX11_init_180 : decode cX11_init 180 = .ok (.aload_n 0, 1) := by decide +kernel
theorem dX11_init_181 : decode cX11_init 181 = .ok (.bipush 40, 2) := by decide +kernel
theorem dX11_init_183 : decode cX11_init 183 = .ok (.newarray .int, 2) := by decide +kernel
theorem dX11_init_185 : decode cX11_init 185 = .ok (.putfield 76, 3) := by decide +kernel
theorem dX11_init_188 : decode cX11_init 188 = .ok (.aload_n 0, 1) := by decide +kernel
theorem dX11_init_189 : decode cX11_init 189 = .ok (.bipush 40, 2) := by decide +kernel
theorem dX11_init_191 : decode cX11_init 191 = .ok (.newarray .int, 2) := by decide +kernel
theorem dX11_init_193 : decode cX11_init 193 = .ok (.putfield 79, 3) := by decide +kernel
theorem dX11_init_196 : decode cX11_init 196 = .ok (.aload_n 0, 1) := by decide +kernel
theorem dX11_init_197 : decode cX11_init 197 = .ok (.iconst 4, 1) := by decide +kernel
theorem dX11_init_198 : decode cX11_init 198 = .ok (.newarray .int, 2) := by decide +kernel
theorem dX11_init_200 : decode cX11_init 200 = .ok (.dup, 1) := by decide +kernel
theorem dX11_init_201 : decode cX11_init 201 = .ok (.iconst 0, 1) := by decide +kernel
theorem dX11_init_202 : decode cX11_init 202 = .ok (.bipush (-4), 2) := by decide +kernel
theorem dX11_init_204 : decode cX11_init 204 = .ok (.iastore, 1) := by decide +kernel
theorem dX11_init_205 : decode cX11_init 205 = .ok (.dup, 1) := by decide +kernel
theorem dX11_init_206 : decode cX11_init 206 = .ok (.iconst 1, 1) := by decide +kernel
theorem dX11_init_207 : decode cX11_init 207 = .ok (.bipush (-4), 2) := by decide +kernel
theorem dX11_init_209 : decode cX11_init 209 = .ok (.iastore, 1) := by decide +kernel
theorem dX11_init_210 : decode cX11_init 210 = .ok (.dup, 1) := by decide +kernel
theorem dX11_init_211 : decode cX11_init 211 = .ok (.iconst 2, 1) := by decide +kernel
theorem dX11_init_212 : decode cX11_init 212 = .ok (.bipush (-4), 2) := by decide +kernel
theorem dX11_init_214 : decode cX11_init 214 = .ok (.iastore, 1) := by decide +kernel
theorem dX11_init_215 : decode cX11_init 215 = .ok (.dup, 1) := by decide +kernel
theorem dX11_init_216 : decode cX11_init 216 = .ok (.iconst 3, 1) := by decide +kernel
theorem dX11_init_217 : decode cX11_init 217 = .ok (.bipush (-4), 2) := by decide +kernel
theorem dX11_init_219 : decode cX11_init 219 = .ok (.iastore, 1) := by decide +kernel
theorem dX11_init_220 : decode cX11_init 220 = .ok (.putfield 82, 3) := by decide +kernel
theorem dX11_init_223 : decode cX11_init 223 = .ok (.aload_n 0, 1) := by decide +kernel
theorem dX11_init_224 : decode cX11_init 224 = .ok (.iconst 4, 1) := by decide +kernel
theorem dX11_init_225 : decode cX11_init 225 = .ok (.newarray .int, 2) := by decide +kernel
theorem dX11_init_227 : decode cX11_init 227 = .ok (.putfield 85, 3) := by decide +kernel
theorem dX11_init_230 : decode cX11_init 230 = .ok (.aload_n 0, 1) := by decide +kernel
theorem dX11_init_231 : decode cX11_init 231 = .ok (.sipush 240, 3) := by decide +kernel
theorem dX11_init_234 : decode cX11_init 234 = .ok (.newarray .int, 2) := by decide +kernel
theorem dX11_init_236 : decode cX11_init 236 = .ok (.putfield 88, 3) := by decide +kernel
theorem dX11_init_239 : decode cX11_init 239 = .ok (.return_, 1) := by decide +kernel
theorem dX11_in_0 : decode cX11_in 0 = .ok (.lload_n 0, 1) := by decide +kernel
theorem dX11_in_1 : decode cX11_in 1 = .ok (.lload_n 2, 1) := by decide +kernel
theorem dX11_in_2 : decode cX11_in 2 = .ok (.lcmp, 1) := by decide +kernel
theorem dX11_in_3 : decode cX11_in 3 = .ok (.ifCond .lt 14, 3) := by decide +kernel
theorem dX11_in_6 : decode cX11_in 6 = .ok (.lload_n 0, 1) := by decide +kernel
theorem dX11_in_7 : decode cX11_in 7 = .ok (.lload 4, 2) := by decide +kernel
theorem dX11_in_9 : decode cX11_in 9 = .ok (.lcmp, 1) := by decide +kernel
theorem dX11_in_10 : decode cX11_in 10 = .ok (.ifCond .gt 7, 3) := by decide +kernel
theorem dX11_in_13 : decode cX11_in 13 = .ok (.iconst 1, 1) := by decide +kernel
theorem dX11_in_14 : decode cX11_in 14 = .ok (.goto 4, 3) := by decide +kernel
theorem dX11_in_17 : decode cX11_in 17 = .ok (.iconst 0, 1) := by decide +kernel
theorem dX11_in_18 : decode cX11_in 18 = .ok (.ireturn, 1) := by decide +kernel
theorem dX11_is_0 : decode cX11_is 0 = .ok (.iload_n 1, 1) := by decide +kernel
theorem dX11_is_1 : decode cX11_is 1 = .ok (.i2l, 1) := by decide +kernel
theorem dX11_is_2 : decode cX11_is 2 = .ok (.lconst 0, 1) := by decide +kernel
theorem dX11_is_3 : decode cX11_is 3 = .ok (.aload_n 0, 1) := by decide +kernel
theorem dX11_is_4 : decode cX11_is 4 = .ok (.getfield 91, 3) := by decide +kernel
theorem dX11_is_7 : decode cX11_is 7 = .ok (.iconst 1, 1) := by decide +kernel
theorem dX11_is_8 : decode cX11_is 8 = .ok (.isub, 1) := by decide +kernel
theorem dX11_is_9 : decode cX11_is 9 = .ok (.i2l, 1) := by decide +kernel
theorem dX11_is_10 : decode cX11_is 10 = .ok (.invokestatic 95, 3) := by decide +kernel
theorem dX11_is_13 : decode cX11_is 13 = .ok (.ireturn, 1) := by decide +kernel
theorem dX11_isPointer_0 : decode cX11_isPointer 0 = .ok (.iload_n 0, 1) := by decide +kernel
theorem dX11_isPointer_1 : decode cX11_isPointer 1 = .ok (.i2l, 1) := by decide +kernel
theorem dX11_isPointer_2 : decode cX11_isPointer 2 = .ok (.lconst 0, 1) := by decide +kernel
theorem dX11_isPointer_3 : decode cX11_isPointer 3 = .ok (.ldc2_w 99, 3) := by decide +kernel
theorem dX11_isPointer_6 : decode cX11_isPointer 6 = .ok (.invokestatic 95, 3) := by decide +kernel
theorem dX11_isPointer_9 : decode cX11_isPointer 9 = .ok (.ireturn, 1) := by decide +kernel
theorem dX11_routine_0 : decode cX11_routine 0 = .ok (.iload_n 1, 1) := by decide +kernel
theorem dX11_routine_1 : decode cX11_routine 1 = .ok (.i2l, 1) := by decide +kernel
theorem dX11_routine_2 : decode cX11_routine 2 = .ok (.lconst 0, 1) := by decide +kernel
theorem dX11_routine_3 : decode cX11_routine 3 = .ok (.ldc2_w 101, 3) := by decide +kernel
theorem dX11_routine_6 : decode cX11_routine 6 = .ok (.invokestatic 95, 3) := by decide +kernel
theorem dX11_routine_9 : decode cX11_routine 9 = .ok (.ifCond .ne 5, 3) := by decide +kernel
theorem dX11_routine_12 : decode cX11_routine 12 = .ok (.iconst (-1), 1) := by decide +kernel
theorem dX11_routine_13 : decode cX11_routine 13 = .ok (.ireturn, 1) := by decide +kernel
theorem dX11_routine_14 : decode cX11_routine 14 = .ok (.aload_n 0, 1) := by decide +kernel
theorem dX11_routine_15 : decode cX11_routine 15 = .ok (.getfield 91, 3) := by decide +kernel
theorem dX11_routine_18 : decode cX11_routine 18 = .ok (.bipush 20, 2) := by decide +kernel
theorem dX11_routine_20 : decode cX11_routine 20 = .ok (.if_icmp .ne 6, 3) := by decide +kernel
theorem dX11_routine_23 : decode cX11_routine 23 = .ok (.bipush (-3), 2) := by decide +kernel
theorem dX11_routine_25 : decode cX11_routine 25 = .ok (.ireturn, 1) := by decide +kernel
theorem dX11_routine_26 : decode cX11_routine 26 = .ok (.aload_n 0, 1) := by decide +kernel
theorem dX11_routine_27 : decode cX11_routine 27 = .ok (.getfield 7, 3) := by decide +kernel
theorem dX11_routine_30 : decode cX11_routine 30 = .ok (.aload_n 0, 1) := by decide +kernel
theorem dX11_routine_31 : decode cX11_routine 31 = .ok (.getfield 91, 3) := by decide +kernel
theorem dX11_routine_34 : decode cX11_routine 34 = .ok (.iload_n 1, 1) := by decide +kernel
theorem dX11_routine_35 : decode cX11_routine 35 = .ok (.iastore, 1) := by decide +kernel
theorem dX11_routine_36 : decode cX11_routine 36 = .ok (.aload_n 0, 1) := by decide +kernel
theorem dX11_routine_37 : decode cX11_routine 37 = .ok (.getfield 13, 3) := by decide +kernel
theorem dX11_routine_40 : decode cX11_routine 40 = .ok (.aload_n 0, 1) := by decide +kernel
theorem dX11_routine_41 : decode cX11_routine 41 = .ok (.getfield 91, 3) := by decide +kernel
theorem dX11_routine_44 : decode cX11_routine 44 = .ok (.iconst 0, 1) := by decide +kernel
theorem dX11_routine_45 : decode cX11_routine 45 = .ok (.iastore, 1) := by decide +kernel
theorem dX11_routine_46 : decode cX11_routine 46 = .ok (.aload_n 0, 1) := by decide +kernel
theorem dX11_routine_47 : decode cX11_routine 47 = .ok (.dup, 1) := by decide +kernel
theorem dX11_routine_48 : decode cX11_routine 48 = .ok (.getfield 91, 3) := by decide +kernel
theorem dX11_routine_51 : decode cX11_routine 51 = .ok (.iconst 1, 1) := by decide +kernel
theorem dX11_routine_52 : decode cX11_routine 52 = .ok (.iadd, 1) := by decide +kernel
theorem dX11_routine_53 : decode cX11_routine 53 = .ok (.putfield 91, 3) := by decide +kernel
theorem dX11_routine_56 : decode cX11_routine 56 = .ok (.aload_n 0, 1) := by decide +kernel
theorem dX11_routine_57 : decode cX11_routine 57 = .ok (.getfield 91, 3) := by decide +kernel
theorem dX11_routine_60 : decode cX11_routine 60 = .ok (.iconst 1, 1) := by decide +kernel
theorem dX11_routine_61 : decode cX11_routine 61 = .ok (.isub, 1) := by decide +kernel
theorem dX11_routine_62 : decode cX11_routine 62 = .ok (.ireturn, 1) := by decide +kernel
theorem dX11_frame_0 : decode cX11_frame 0 = .ok (.aload_n 0, 1) := by decide +kernel
theorem dX11_frame_1 : decode cX11_frame 1 = .ok (.iload_n 1, 1) := by decide +kernel
theorem dX11_frame_2 : decode cX11_frame 2 = .ok (.invokevirtual 103, 3) := by decide +kernel
theorem dX11_frame_5 : decode cX11_frame 5 = .ok (.ifCond .eq 15, 3) := by decide +kernel
theorem dX11_frame_8 : decode cX11_frame 8 = .ok (.iload_n 2, 1) := by decide +kernel
theorem dX11_frame_9 : decode cX11_frame 9 = .ok (.i2l, 1) := by decide +kernel
theorem dX11_frame_10 : decode cX11_frame 10 = .ok (.lconst 0, 1) := by decide +kernel
theorem dX11_frame_11 : decode cX11_frame 11 = .ok (.ldc2_w 101, 3) := by decide +kernel
theorem dX11_frame_14 : decode cX11_frame 14 = .ok (.invokestatic 95, 3) := by decide +kernel
theorem dX11_frame_17 : decode cX11_frame 17 = .ok (.ifCond .ne 5, 3) := by decide +kernel
theorem dX11_frame_20 : decode cX11_frame 20 = .ok (.iconst (-1), 1) := by decide +kernel
theorem dX11_frame_21 : decode cX11_frame 21 = .ok (.ireturn, 1) := by decide +kernel
theorem dX11_frame_22 : decode cX11_frame 22 = .ok (.aload_n 0, 1) := by decide +kernel
theorem dX11_frame_23 : decode cX11_frame 23 = .ok (.getfield 7, 3) := by decide +kernel
theorem dX11_frame_26 : decode cX11_frame 26 = .ok (.iload_n 1, 1) := by decide +kernel
theorem dX11_frame_27 : decode cX11_frame 27 = .ok (.iaload, 1) := by decide +kernel
theorem dX11_frame_28 : decode cX11_frame 28 = .ok (.istore_n 3, 1) := by decide +kernel
theorem dX11_frame_29 : decode cX11_frame 29 = .ok (.aload_n 0, 1) := by decide +kernel
theorem dX11_frame_30 : decode cX11_frame 30 = .ok (.getfield 7, 3) := by decide +kernel
theorem dX11_frame_33 : decode cX11_frame 33 = .ok (.iload_n 1, 1) := by decide +kernel
theorem dX11_frame_34 : decode cX11_frame 34 = .ok (.iload_n 2, 1) := by decide +kernel
theorem dX11_frame_35 : decode cX11_frame 35 = .ok (.iastore, 1) := by decide +kernel
theorem dX11_frame_36 : decode cX11_frame 36 = .ok (.iload_n 3, 1) := by decide +kernel
theorem dX11_frame_37 : decode cX11_frame 37 = .ok (.ireturn, 1) := by decide +kernel
theorem dX11_turns_0 : decode cX11_turns 0 = .ok (.aload_n 0, 1) := by decide +kernel
theorem dX11_turns_1 : decode cX11_turns 1 = .ok (.iload_n 1, 1) := by decide +kernel
theorem dX11_turns_2 : decode cX11_turns 2 = .ok (.invokevirtual 103, 3) := by decide +kernel
theorem dX11_turns_5 : decode cX11_turns 5 = .ok (.ifCond .eq 15, 3) := by decide +kernel
theorem dX11_turns_8 : decode cX11_turns 8 = .ok (.iload_n 2, 1) := by decide +kernel
theorem dX11_turns_9 : decode cX11_turns 9 = .ok (.i2l, 1) := by decide +kernel
theorem dX11_turns_10 : decode cX11_turns 10 = .ok (.lconst 0, 1) := by decide +kernel
theorem dX11_turns_11 : decode cX11_turns 11 = .ok (.ldc2_w 107, 3) := by decide +kernel
theorem dX11_turns_14 : decode cX11_turns 14 = .ok (.invokestatic 95, 3) := by decide +kernel
theorem dX11_turns_17 : decode cX11_turns 17 = .ok (.ifCond .ne 5, 3) := by decide +kernel
theorem dX11_turns_20 : decode cX11_turns 20 = .ok (.iconst (-1), 1) := by decide +kernel
theorem dX11_turns_21 : decode cX11_turns 21 = .ok (.ireturn, 1) := by decide +kernel
theorem dX11_turns_22 : decode cX11_turns 22 = .ok (.aload_n 0, 1) := by decide +kernel
theorem dX11_turns_23 : decode cX11_turns 23 = .ok (.getfield 13, 3) := by decide +kernel
theorem dX11_turns_26 : decode cX11_turns 26 = .ok (.iload_n 1, 1) := by decide +kernel
theorem dX11_turns_27 : decode cX11_turns 27 = .ok (.iaload, 1) := by decide +kernel
theorem dX11_turns_28 : decode cX11_turns 28 = .ok (.istore_n 3, 1) := by decide +kernel
theorem dX11_turns_29 : decode cX11_turns 29 = .ok (.aload_n 0, 1) := by decide +kernel
theorem dX11_turns_30 : decode cX11_turns 30 = .ok (.getfield 13, 3) := by decide +kernel
theorem dX11_turns_33 : decode cX11_turns 33 = .ok (.iload_n 1, 1) := by decide +kernel
theorem dX11_turns_34 : decode cX11_turns 34 = .ok (.iload_n 2, 1) := by decide +kernel
theorem dX11_turns_35 : decode cX11_turns 35 = .ok (.iastore, 1) := by decide +kernel
theorem dX11_turns_36 : decode cX11_turns 36 = .ok (.iload_n 3, 1) := by decide +kernel
theorem dX11_turns_37 : decode cX11_turns 37 = .ok (.ireturn, 1) := by decide +kernel
theorem dX11_find_0 : decode cX11_find 0 = .ok (.iconst 0, 1) := by decide +kernel
theorem dX11_find_1 : decode cX11_find 1 = .ok (.istore 4, 2) := by decide +kernel
theorem dX11_find_3 : decode cX11_find 3 = .ok (.iload 4, 2) := by decide +kernel
theorem dX11_find_5 : decode cX11_find 5 = .ok (.aload_n 0, 1) := by decide +kernel
theorem dX11_find_6 : decode cX11_find 6 = .ok (.getfield 109, 3) := by decide +kernel
theorem dX11_find_9 : decode cX11_find 9 = .ok (.if_icmp .ge 45, 3) := by decide +kernel
theorem dX11_find_12 : decode cX11_find 12 = .ok (.aload_n 0, 1) := by decide +kernel
theorem dX11_find_13 : decode cX11_find 13 = .ok (.getfield 16, 3) := by decide +kernel
theorem dX11_find_16 : decode cX11_find 16 = .ok (.iload 4, 2) := by decide +kernel
theorem dX11_find_18 : decode cX11_find 18 = .ok (.iaload, 1) := by decide +kernel
theorem dX11_find_19 : decode cX11_find 19 = .ok (.iload_n 1, 1) := by decide +kernel
theorem dX11_find_20 : decode cX11_find 20 = .ok (.if_icmp .ne 28, 3) := by decide +kernel
theorem dX11_find_23 : decode cX11_find 23 = .ok (.aload_n 0, 1) := by decide +kernel
theorem dX11_find_24 : decode cX11_find 24 = .ok (.getfield 19, 3) := by decide +kernel
theorem dX11_find_27 : decode cX11_find 27 = .ok (.iload 4, 2) := by decide +kernel
theorem dX11_find_29 : decode cX11_find 29 = .ok (.iaload, 1) := by decide +kernel
theorem dX11_find_30 : decode cX11_find 30 = .ok (.iload_n 2, 1) := by decide +kernel
theorem dX11_find_31 : decode cX11_find 31 = .ok (.if_icmp .ne 17, 3) := by decide +kernel
theorem dX11_find_34 : decode cX11_find 34 = .ok (.aload_n 0, 1) := by decide +kernel
theorem dX11_find_35 : decode cX11_find 35 = .ok (.getfield 22, 3) := by decide +kernel
theorem dX11_find_38 : decode cX11_find 38 = .ok (.iload 4, 2) := by decide +kernel
theorem dX11_find_40 : decode cX11_find 40 = .ok (.iaload, 1) := by decide +kernel
theorem dX11_find_41 : decode cX11_find 41 = .ok (.iload_n 3, 1) := by decide +kernel
theorem dX11_find_42 : decode cX11_find 42 = .ok (.if_icmp .ne 6, 3) := by decide +kernel
theorem dX11_find_45 : decode cX11_find 45 = .ok (.iload 4, 2) := by decide +kernel
theorem dX11_find_47 : decode cX11_find 47 = .ok (.ireturn, 1) := by decide +kernel
theorem dX11_find_48 : decode cX11_find 48 = .ok (.iinc 4 1, 3) := by decide +kernel
theorem dX11_find_51 : decode cX11_find 51 = .ok (.goto (-48), 3) := by decide +kernel
theorem dX11_find_54 : decode cX11_find 54 = .ok (.bipush (-4), 2) := by decide +kernel
theorem dX11_find_56 : decode cX11_find 56 = .ok (.ireturn, 1) := by decide +kernel
theorem dX11_called_0 : decode cX11_called 0 = .ok (.iload_n 3, 1) := by decide +kernel
theorem dX11_called_1 : decode cX11_called 1 = .ok (.i2l, 1) := by decide +kernel
theorem dX11_called_2 : decode cX11_called 2 = .ok (.lconst 0, 1) := by decide +kernel
theorem dX11_called_3 : decode cX11_called 3 = .ok (.ldc2_w 112, 3) := by decide +kernel
theorem dX11_called_6 : decode cX11_called 6 = .ok (.invokestatic 95, 3) := by decide +kernel
theorem dX11_called_9 : decode cX11_called 9 = .ok (.ifCond .eq 34, 3) := by decide +kernel
theorem dX11_called_12 : decode cX11_called 12 = .ok (.aload_n 0, 1) := by decide +kernel
theorem dX11_called_13 : decode cX11_called 13 = .ok (.iload_n 1, 1) := by decide +kernel
theorem dX11_called_14 : decode cX11_called 14 = .ok (.invokevirtual 103, 3) := by decide +kernel
theorem dX11_called_17 : decode cX11_called 17 = .ok (.ifCond .eq 26, 3) := by decide +kernel
theorem dX11_called_20 : decode cX11_called 20 = .ok (.iload_n 3, 1) := by decide +kernel
theorem dX11_called_21 : decode cX11_called 21 = .ok (.iconst 1, 1) := by decide +kernel
theorem dX11_called_22 : decode cX11_called 22 = .ok (.if_icmp .le 13, 3) := by decide +kernel
theorem dX11_called_25 : decode cX11_called 25 = .ok (.iload_n 2, 1) := by decide +kernel
theorem dX11_called_26 : decode cX11_called 26 = .ok (.invokestatic 114, 3) := by decide +kernel
theorem dX11_called_29 : decode cX11_called 29 = .ok (.ifCond .eq 14, 3) := by decide +kernel
theorem dX11_called_32 : decode cX11_called 32 = .ok (.goto 13, 3) := by decide +kernel
theorem dX11_called_35 : decode cX11_called 35 = .ok (.aload_n 0, 1) := by decide +kernel
theorem dX11_called_36 : decode cX11_called 36 = .ok (.iload_n 2, 1) := by decide +kernel
theorem dX11_called_37 : decode cX11_called 37 = .ok (.invokevirtual 103, 3) := by decide +kernel
theorem dX11_called_40 : decode cX11_called 40 = .ok (.ifCond .ne 5, 3) := by decide +kernel
theorem dX11_called_43 : decode cX11_called 43 = .ok (.iconst (-1), 1) := by decide +kernel
theorem dX11_called_44 : decode cX11_called 44 = .ok (.ireturn, 1) := by decide +kernel
theorem dX11_called_45 : decode cX11_called 45 = .ok (.aload_n 0, 1) := by decide +kernel
theorem dX11_called_46 : decode cX11_called 46 = .ok (.iload_n 1, 1) := by decide +kernel
theorem dX11_called_47 : decode cX11_called 47 = .ok (.iload_n 2, 1) := by decide +kernel
theorem dX11_called_48 : decode cX11_called 48 = .ok (.iload_n 3, 1) := by decide +kernel
theorem dX11_called_49 : decode cX11_called 49 = .ok (.invokevirtual 117, 3) := by decide +kernel
theorem dX11_called_52 : decode cX11_called 52 = .ok (.bipush (-4), 2) := by decide +kernel
theorem dX11_called_54 : decode cX11_called 54 = .ok (.if_icmp .eq 6, 3) := by decide +kernel
theorem dX11_called_57 : decode cX11_called 57 = .ok (.bipush (-2), 2) := by decide +kernel
theorem dX11_called_59 : decode cX11_called 59 = .ok (.ireturn, 1) := by decide +kernel
theorem dX11_called_60 : decode cX11_called 60 = .ok (.aload_n 0, 1) := by decide +kernel
theorem dX11_called_61 : decode cX11_called 61 = .ok (.getfield 109, 3) := by decide +kernel
theorem dX11_called_64 : decode cX11_called 64 = .ok (.bipush 60, 2) := by decide +kernel
theorem dX11_called_66 : decode cX11_called 66 = .ok (.if_icmp .ne 6, 3) := by decide +kernel
theorem dX11_called_69 : decode cX11_called 69 = .ok (.bipush (-3), 2) := by decide +kernel
theorem dX11_called_71 : decode cX11_called 71 = .ok (.ireturn, 1) := by decide +kernel
theorem dX11_called_72 : decode cX11_called 72 = .ok (.aload_n 0, 1) := by decide +kernel
theorem dX11_called_73 : decode cX11_called 73 = .ok (.getfield 16, 3) := by decide +kernel
theorem dX11_called_76 : decode cX11_called 76 = .ok (.aload_n 0, 1) := by decide +kernel
theorem dX11_called_77 : decode cX11_called 77 = .ok (.getfield 109, 3) := by decide +kernel
theorem dX11_called_80 : decode cX11_called 80 = .ok (.iload_n 1, 1) := by decide +kernel
theorem dX11_called_81 : decode cX11_called 81 = .ok (.iastore, 1) := by decide +kernel
theorem dX11_called_82 : decode cX11_called 82 = .ok (.aload_n 0, 1) := by decide +kernel
theorem dX11_called_83 : decode cX11_called 83 = .ok (.getfield 19, 3) := by decide +kernel
theorem dX11_called_86 : decode cX11_called 86 = .ok (.aload_n 0, 1) := by decide +kernel
theorem dX11_called_87 : decode cX11_called 87 = .ok (.getfield 109, 3) := by decide +kernel
theorem dX11_called_90 : decode cX11_called 90 = .ok (.iload_n 2, 1) := by decide +kernel
theorem dX11_called_91 : decode cX11_called 91 = .ok (.iastore, 1) := by decide +kernel
theorem dX11_called_92 : decode cX11_called 92 = .ok (.aload_n 0, 1) := by decide +kernel
theorem dX11_called_93 : decode cX11_called 93 = .ok (.getfield 22, 3) := by decide +kernel
theorem dX11_called_96 : decode cX11_called 96 = .ok (.aload_n 0, 1) := by decide +kernel
theorem dX11_called_97 : decode cX11_called 97 = .ok (.getfield 109, 3) := by decide +kernel
theorem dX11_called_100 : decode cX11_called 100 = .ok (.iload_n 3, 1) := by decide +kernel
theorem dX11_called_101 : decode cX11_called 101 = .ok (.iastore, 1) := by decide +kernel
theorem dX11_called_102 : decode cX11_called 102 = .ok (.aload_n 0, 1) := by decide +kernel
theorem dX11_called_103 : decode cX11_called 103 = .ok (.dup, 1) := by decide +kernel
theorem dX11_called_104 : decode cX11_called 104 = .ok (.getfield 109, 3) := by decide +kernel
theorem dX11_called_107 : decode cX11_called 107 = .ok (.iconst 1, 1) := by decide +kernel
theorem dX11_called_108 : decode cX11_called 108 = .ok (.iadd, 1) := by decide +kernel
theorem dX11_called_109 : decode cX11_called 109 = .ok (.putfield 109, 3) := by decide +kernel
theorem dX11_called_112 : decode cX11_called 112 = .ok (.aload_n 0, 1) := by decide +kernel
theorem dX11_called_113 : decode cX11_called 113 = .ok (.getfield 109, 3) := by decide +kernel
theorem dX11_called_116 : decode cX11_called 116 = .ok (.ireturn, 1) := by decide +kernel
theorem dX11_sortOf_0 : decode cX11_sortOf 0 = .ok (.iload_n 0, 1) := by decide +kernel
theorem dX11_sortOf_1 : decode cX11_sortOf 1 = .ok (.ifCond .eq 7, 3) := by decide +kernel
theorem dX11_sortOf_4 : decode cX11_sortOf 4 = .ok (.iconst 2, 1) := by decide +kernel
theorem dX11_sortOf_5 : decode cX11_sortOf 5 = .ok (.goto 4, 3) := by decide +kernel
theorem dX11_sortOf_8 : decode cX11_sortOf 8 = .ok (.iconst 0, 1) := by decide +kernel
theorem dX11_sortOf_9 : decode cX11_sortOf 9 = .ok (.iload_n 1, 1) := by decide +kernel
theorem dX11_sortOf_10 : decode cX11_sortOf 10 = .ok (.ifCond .eq 7, 3) := by decide +kernel
theorem dX11_sortOf_13 : decode cX11_sortOf 13 = .ok (.iconst 1, 1) := by decide +kernel
theorem dX11_sortOf_14 : decode cX11_sortOf 14 = .ok (.goto 4, 3) := by decide +kernel
theorem dX11_sortOf_17 : decode cX11_sortOf 17 = .ok (.iconst 0, 1) := by decide +kernel
theorem dX11_sortOf_18 : decode cX11_sortOf 18 = .ok (.iadd, 1) := by decide +kernel
theorem dX11_sortOf_19 : decode cX11_sortOf 19 = .ok (.ireturn, 1) := by decide +kernel
theorem dX11_call_0 : decode cX11_call 0 = .ok (.aload_n 0, 1) := by decide +kernel
theorem dX11_call_1 : decode cX11_call 1 = .ok (.iload_n 1, 1) := by decide +kernel
theorem dX11_call_2 : decode cX11_call 2 = .ok (.iload_n 2, 1) := by decide +kernel
theorem dX11_call_3 : decode cX11_call 3 = .ok (.iload_n 3, 1) := by decide +kernel
theorem dX11_call_4 : decode cX11_call 4 = .ok (.iload 4, 2) := by decide +kernel
theorem dX11_call_6 : decode cX11_call 6 = .ok (.invokestatic 121, 3) := by decide +kernel
theorem dX11_call_9 : decode cX11_call 9 = .ok (.invokevirtual 125, 3) := by decide +kernel
theorem dX11_call_12 : decode cX11_call 12 = .ok (.ireturn, 1) := by decide +kernel
theorem dX11_cut_0 : decode cX11_cut 0 = .ok (.aload_n 0, 1) := by decide +kernel
theorem dX11_cut_1 : decode cX11_cut 1 = .ok (.iload_n 1, 1) := by decide +kernel
theorem dX11_cut_2 : decode cX11_cut 2 = .ok (.invokevirtual 103, 3) := by decide +kernel
theorem dX11_cut_5 : decode cX11_cut 5 = .ok (.ifCond .eq 25, 3) := by decide +kernel
theorem dX11_cut_8 : decode cX11_cut 8 = .ok (.iload_n 3, 1) := by decide +kernel
theorem dX11_cut_9 : decode cX11_cut 9 = .ok (.ifCond .eq 13, 3) := by decide +kernel
theorem dX11_cut_12 : decode cX11_cut 12 = .ok (.iload_n 2, 1) := by decide +kernel
theorem dX11_cut_13 : decode cX11_cut 13 = .ok (.invokestatic 114, 3) := by decide +kernel
theorem dX11_cut_16 : decode cX11_cut 16 = .ok (.ifCond .eq 14, 3) := by decide +kernel
theorem dX11_cut_19 : decode cX11_cut 19 = .ok (.goto 13, 3) := by decide +kernel
theorem dX11_cut_22 : decode cX11_cut 22 = .ok (.aload_n 0, 1) := by decide +kernel
theorem dX11_cut_23 : decode cX11_cut 23 = .ok (.iload_n 2, 1) := by decide +kernel
theorem dX11_cut_24 : decode cX11_cut 24 = .ok (.invokevirtual 103, 3) := by decide +kernel
theorem dX11_cut_27 : decode cX11_cut 27 = .ok (.ifCond .ne 5, 3) := by decide +kernel
theorem dX11_cut_30 : decode cX11_cut 30 = .ok (.iconst (-1), 1) := by decide +kernel
theorem dX11_cut_31 : decode cX11_cut 31 = .ok (.ireturn, 1) := by decide +kernel
theorem dX11_cut_32 : decode cX11_cut 32 = .ok (.aload_n 0, 1) := by decide +kernel
theorem dX11_cut_33 : decode cX11_cut 33 = .ok (.iload_n 1, 1) := by decide +kernel
theorem dX11_cut_34 : decode cX11_cut 34 = .ok (.iload_n 2, 1) := by decide +kernel
theorem dX11_cut_35 : decode cX11_cut 35 = .ok (.iload_n 3, 1) := by decide +kernel
theorem dX11_cut_36 : decode cX11_cut 36 = .ok (.iload 4, 2) := by decide +kernel
theorem dX11_cut_38 : decode cX11_cut 38 = .ok (.invokestatic 121, 3) := by decide +kernel
theorem dX11_cut_41 : decode cX11_cut 41 = .ok (.invokevirtual 117, 3) := by decide +kernel
theorem dX11_cut_44 : decode cX11_cut 44 = .ok (.istore 5, 2) := by decide +kernel
theorem dX11_cut_46 : decode cX11_cut 46 = .ok (.iload 5, 2) := by decide +kernel
theorem dX11_cut_48 : decode cX11_cut 48 = .ok (.bipush (-4), 2) := by decide +kernel
theorem dX11_cut_50 : decode cX11_cut 50 = .ok (.if_icmp .ne 6, 3) := by decide +kernel
theorem dX11_cut_53 : decode cX11_cut 53 = .ok (.bipush (-2), 2) := by decide +kernel
theorem dX11_cut_55 : decode cX11_cut 55 = .ok (.ireturn, 1) := by decide +kernel
theorem dX11_cut_56 : decode cX11_cut 56 = .ok (.aload_n 0, 1) := by decide +kernel
theorem dX11_cut_57 : decode cX11_cut 57 = .ok (.dup, 1) := by decide +kernel
theorem dX11_cut_58 : decode cX11_cut 58 = .ok (.getfield 109, 3) := by decide +kernel
theorem dX11_cut_61 : decode cX11_cut 61 = .ok (.iconst 1, 1) := by decide +kernel
theorem dX11_cut_62 : decode cX11_cut 62 = .ok (.isub, 1) := by decide +kernel
theorem dX11_cut_63 : decode cX11_cut 63 = .ok (.putfield 109, 3) := by decide +kernel
theorem dX11_cut_66 : decode cX11_cut 66 = .ok (.aload_n 0, 1) := by decide +kernel
theorem dX11_cut_67 : decode cX11_cut 67 = .ok (.getfield 16, 3) := by decide +kernel
theorem dX11_cut_70 : decode cX11_cut 70 = .ok (.iload 5, 2) := by decide +kernel
theorem dX11_cut_72 : decode cX11_cut 72 = .ok (.aload_n 0, 1) := by decide +kernel
theorem dX11_cut_73 : decode cX11_cut 73 = .ok (.getfield 16, 3) := by decide +kernel
theorem dX11_cut_76 : decode cX11_cut 76 = .ok (.aload_n 0, 1) := by decide +kernel
theorem dX11_cut_77 : decode cX11_cut 77 = .ok (.getfield 109, 3) := by decide +kernel
theorem dX11_cut_80 : decode cX11_cut 80 = .ok (.iaload, 1) := by decide +kernel
theorem dX11_cut_81 : decode cX11_cut 81 = .ok (.iastore, 1) := by decide +kernel
theorem dX11_cut_82 : decode cX11_cut 82 = .ok (.aload_n 0, 1) := by decide +kernel
theorem dX11_cut_83 : decode cX11_cut 83 = .ok (.getfield 19, 3) := by decide +kernel
theorem dX11_cut_86 : decode cX11_cut 86 = .ok (.iload 5, 2) := by decide +kernel
theorem dX11_cut_88 : decode cX11_cut 88 = .ok (.aload_n 0, 1) := by decide +kernel
theorem dX11_cut_89 : decode cX11_cut 89 = .ok (.getfield 19, 3) := by decide +kernel
theorem dX11_cut_92 : decode cX11_cut 92 = .ok (.aload_n 0, 1) := by decide +kernel
theorem dX11_cut_93 : decode cX11_cut 93 = .ok (.getfield 109, 3) := by decide +kernel
theorem dX11_cut_96 : decode cX11_cut 96 = .ok (.iaload, 1) := by decide +kernel
theorem dX11_cut_97 : decode cX11_cut 97 = .ok (.iastore, 1) := by decide +kernel
theorem dX11_cut_98 : decode cX11_cut 98 = .ok (.aload_n 0, 1) := by decide +kernel
theorem dX11_cut_99 : decode cX11_cut 99 = .ok (.getfield 22, 3) := by decide +kernel
theorem dX11_cut_102 : decode cX11_cut 102 = .ok (.iload 5, 2) := by decide +kernel
theorem dX11_cut_104 : decode cX11_cut 104 = .ok (.aload_n 0, 1) := by decide +kernel
theorem dX11_cut_105 : decode cX11_cut 105 = .ok (.getfield 22, 3) := by decide +kernel
theorem dX11_cut_108 : decode cX11_cut 108 = .ok (.aload_n 0, 1) := by decide +kernel
theorem dX11_cut_109 : decode cX11_cut 109 = .ok (.getfield 109, 3) := by decide +kernel
theorem dX11_cut_112 : decode cX11_cut 112 = .ok (.iaload, 1) := by decide +kernel
theorem dX11_cut_113 : decode cX11_cut 113 = .ok (.iastore, 1) := by decide +kernel
theorem dX11_cut_114 : decode cX11_cut 114 = .ok (.aload_n 0, 1) := by decide +kernel
theorem dX11_cut_115 : decode cX11_cut 115 = .ok (.getfield 109, 3) := by decide +kernel
theorem dX11_cut_118 : decode cX11_cut 118 = .ok (.ireturn, 1) := by decide +kernel
theorem dX11_take_0 : decode cX11_take 0 = .ok (.iload_n 1, 1) := by decide +kernel
theorem dX11_take_1 : decode cX11_take 1 = .ok (.invokestatic 114, 3) := by decide +kernel
theorem dX11_take_4 : decode cX11_take 4 = .ok (.ifCond .eq 11, 3) := by decide +kernel
theorem dX11_take_7 : decode cX11_take 7 = .ok (.aload_n 0, 1) := by decide +kernel
theorem dX11_take_8 : decode cX11_take 8 = .ok (.iload_n 2, 1) := by decide +kernel
theorem dX11_take_9 : decode cX11_take 9 = .ok (.invokevirtual 103, 3) := by decide +kernel
theorem dX11_take_12 : decode cX11_take 12 = .ok (.ifCond .ne 5, 3) := by decide +kernel
theorem dX11_take_15 : decode cX11_take 15 = .ok (.iconst (-1), 1) := by decide +kernel
theorem dX11_take_16 : decode cX11_take 16 = .ok (.ireturn, 1) := by decide +kernel
theorem dX11_take_17 : decode cX11_take 17 = .ok (.aload_n 0, 1) := by decide +kernel
theorem dX11_take_18 : decode cX11_take 18 = .ok (.getfield 25, 3) := by decide +kernel
theorem dX11_take_21 : decode cX11_take 21 = .ok (.iload_n 1, 1) := by decide +kernel
theorem dX11_take_22 : decode cX11_take 22 = .ok (.iaload, 1) := by decide +kernel
theorem dX11_take_23 : decode cX11_take 23 = .ok (.iload_n 2, 1) := by decide +kernel
theorem dX11_take_24 : decode cX11_take 24 = .ok (.ishr, 1) := by decide +kernel
theorem dX11_take_25 : decode cX11_take 25 = .ok (.iconst 1, 1) := by decide +kernel
theorem dX11_take_26 : decode cX11_take 26 = .ok (.iand, 1) := by decide +kernel
theorem dX11_take_27 : decode cX11_take 27 = .ok (.iconst 1, 1) := by decide +kernel
theorem dX11_take_28 : decode cX11_take 28 = .ok (.if_icmp .ne 6, 3) := by decide +kernel
theorem dX11_take_31 : decode cX11_take 31 = .ok (.bipush (-2), 2) := by decide +kernel
theorem dX11_take_33 : decode cX11_take 33 = .ok (.ireturn, 1) := by decide +kernel
theorem dX11_take_34 : decode cX11_take 34 = .ok (.aload_n 0, 1) := by decide +kernel
theorem dX11_take_35 : decode cX11_take 35 = .ok (.getfield 25, 3) := by decide +kernel
theorem dX11_take_38 : decode cX11_take 38 = .ok (.iload_n 1, 1) := by decide +kernel
theorem dX11_take_39 : decode cX11_take 39 = .ok (.dup2, 1) := by decide +kernel
theorem dX11_take_40 : decode cX11_take 40 = .ok (.iaload, 1) := by decide +kernel
theorem dX11_take_41 : decode cX11_take 41 = .ok (.iconst 1, 1) := by decide +kernel
theorem dX11_take_42 : decode cX11_take 42 = .ok (.iload_n 2, 1) := by decide +kernel
theorem dX11_take_43 : decode cX11_take 43 = .ok (.ishl, 1) := by decide +kernel
theorem dX11_take_44 : decode cX11_take 44 = .ok (.ior, 1) := by decide +kernel
theorem dX11_take_45 : decode cX11_take 45 = .ok (.iastore, 1) := by decide +kernel
theorem dX11_take_46 : decode cX11_take 46 = .ok (.iconst 1, 1) := by decide +kernel
theorem dX11_take_47 : decode cX11_take 47 = .ok (.ireturn, 1) := by decide +kernel
theorem dX11_flow_0 : decode cX11_flow 0 = .ok (.iload_n 1, 1) := by decide +kernel
theorem dX11_flow_1 : decode cX11_flow 1 = .ok (.invokestatic 114, 3) := by decide +kernel
theorem dX11_flow_4 : decode cX11_flow 4 = .ok (.ifCond .eq 10, 3) := by decide +kernel
theorem dX11_flow_7 : decode cX11_flow 7 = .ok (.iload_n 2, 1) := by decide +kernel
theorem dX11_flow_8 : decode cX11_flow 8 = .ok (.invokestatic 114, 3) := by decide +kernel
theorem dX11_flow_11 : decode cX11_flow 11 = .ok (.ifCond .ne 5, 3) := by decide +kernel
theorem dX11_flow_14 : decode cX11_flow 14 = .ok (.iconst (-1), 1) := by decide +kernel
theorem dX11_flow_15 : decode cX11_flow 15 = .ok (.ireturn, 1) := by decide +kernel
theorem dX11_flow_16 : decode cX11_flow 16 = .ok (.iload_n 1, 1) := by decide +kernel
theorem dX11_flow_17 : decode cX11_flow 17 = .ok (.iload_n 2, 1) := by decide +kernel
theorem dX11_flow_18 : decode cX11_flow 18 = .ok (.if_icmp .eq 17, 3) := by decide +kernel
theorem dX11_flow_21 : decode cX11_flow 21 = .ok (.aload_n 0, 1) := by decide +kernel
theorem dX11_flow_22 : decode cX11_flow 22 = .ok (.getfield 28, 3) := by decide +kernel
theorem dX11_flow_25 : decode cX11_flow 25 = .ok (.iload_n 1, 1) := by decide +kernel
theorem dX11_flow_26 : decode cX11_flow 26 = .ok (.iaload, 1) := by decide +kernel
theorem dX11_flow_27 : decode cX11_flow 27 = .ok (.iload_n 2, 1) := by decide +kernel
theorem dX11_flow_28 : decode cX11_flow 28 = .ok (.ishr, 1) := by decide +kernel
theorem dX11_flow_29 : decode cX11_flow 29 = .ok (.iconst 1, 1) := by decide +kernel
theorem dX11_flow_30 : decode cX11_flow 30 = .ok (.iand, 1) := by decide +kernel
theorem dX11_flow_31 : decode cX11_flow 31 = .ok (.iconst 1, 1) := by decide +kernel
theorem dX11_flow_32 : decode cX11_flow 32 = .ok (.if_icmp .ne 6, 3) := by decide +kernel
theorem dX11_flow_35 : decode cX11_flow 35 = .ok (.bipush (-2), 2) := by decide +kernel
theorem dX11_flow_37 : decode cX11_flow 37 = .ok (.ireturn, 1) := by decide +kernel
theorem dX11_flow_38 : decode cX11_flow 38 = .ok (.aload_n 0, 1) := by decide +kernel
theorem dX11_flow_39 : decode cX11_flow 39 = .ok (.getfield 28, 3) := by decide +kernel
theorem dX11_flow_42 : decode cX11_flow 42 = .ok (.iload_n 1, 1) := by decide +kernel
theorem dX11_flow_43 : decode cX11_flow 43 = .ok (.dup2, 1) := by decide +kernel
theorem dX11_flow_44 : decode cX11_flow 44 = .ok (.iaload, 1) := by decide +kernel
theorem dX11_flow_45 : decode cX11_flow 45 = .ok (.iconst 1, 1) := by decide +kernel
theorem dX11_flow_46 : decode cX11_flow 46 = .ok (.iload_n 2, 1) := by decide +kernel
theorem dX11_flow_47 : decode cX11_flow 47 = .ok (.ishl, 1) := by decide +kernel
theorem dX11_flow_48 : decode cX11_flow 48 = .ok (.ior, 1) := by decide +kernel
theorem dX11_flow_49 : decode cX11_flow 49 = .ok (.iastore, 1) := by decide +kernel
theorem dX11_flow_50 : decode cX11_flow 50 = .ok (.iconst 1, 1) := by decide +kernel
theorem dX11_flow_51 : decode cX11_flow 51 = .ok (.ireturn, 1) := by decide +kernel
theorem dX11_layGoals_0 : decode cX11_layGoals 0 = .ok (.iconst 0, 1) := by decide +kernel
theorem dX11_layGoals_1 : decode cX11_layGoals 1 = .ok (.istore_n 1, 1) := by decide +kernel
theorem dX11_layGoals_2 : decode cX11_layGoals 2 = .ok (.iload_n 1, 1) := by decide +kernel
theorem dX11_layGoals_3 : decode cX11_layGoals 3 = .ok (.bipush 8, 2) := by decide +kernel
theorem dX11_layGoals_5 : decode cX11_layGoals 5 = .ok (.if_icmp .ge 21, 3) := by decide +kernel
theorem dX11_layGoals_8 : decode cX11_layGoals 8 = .ok (.aload_n 0, 1) := by decide +kernel
theorem dX11_layGoals_9 : decode cX11_layGoals 9 = .ok (.getfield 31, 3) := by decide +kernel
theorem dX11_layGoals_12 : decode cX11_layGoals 12 = .ok (.iload_n 1, 1) := by decide +kernel
theorem dX11_layGoals_13 : decode cX11_layGoals 13 = .ok (.aload_n 0, 1) := by decide +kernel
theorem dX11_layGoals_14 : decode cX11_layGoals 14 = .ok (.getfield 25, 3) := by decide +kernel
theorem dX11_layGoals_17 : decode cX11_layGoals 17 = .ok (.iload_n 1, 1) := by decide +kernel
theorem dX11_layGoals_18 : decode cX11_layGoals 18 = .ok (.iaload, 1) := by decide +kernel
theorem dX11_layGoals_19 : decode cX11_layGoals 19 = .ok (.iastore, 1) := by decide +kernel
theorem dX11_layGoals_20 : decode cX11_layGoals 20 = .ok (.iinc 1 1, 3) := by decide +kernel
theorem dX11_layGoals_23 : decode cX11_layGoals 23 = .ok (.goto (-21), 3) := by decide +kernel
theorem dX11_layGoals_26 : decode cX11_layGoals 26 = .ok (.iconst 0, 1) := by decide +kernel
theorem dX11_layGoals_27 : decode cX11_layGoals 27 = .ok (.istore_n 1, 1) := by decide +kernel
theorem dX11_layGoals_28 : decode cX11_layGoals 28 = .ok (.iload_n 1, 1) := by decide +kernel
theorem dX11_layGoals_29 : decode cX11_layGoals 29 = .ok (.bipush 8, 2) := by decide +kernel
theorem dX11_layGoals_31 : decode cX11_layGoals 31 = .ok (.if_icmp .ge 70, 3) := by decide +kernel
theorem dX11_layGoals_34 : decode cX11_layGoals 34 = .ok (.iconst 0, 1) := by decide +kernel
theorem dX11_layGoals_35 : decode cX11_layGoals 35 = .ok (.istore_n 2, 1) := by decide +kernel
theorem dX11_layGoals_36 : decode cX11_layGoals 36 = .ok (.iload_n 2, 1) := by decide +kernel
theorem dX11_layGoals_37 : decode cX11_layGoals 37 = .ok (.bipush 8, 2) := by decide +kernel
theorem dX11_layGoals_39 : decode cX11_layGoals 39 = .ok (.if_icmp .ge 56, 3) := by decide +kernel
theorem dX11_layGoals_42 : decode cX11_layGoals 42 = .ok (.iconst 0, 1) := by decide +kernel
theorem dX11_layGoals_43 : decode cX11_layGoals 43 = .ok (.istore_n 3, 1) := by decide +kernel
theorem dX11_layGoals_44 : decode cX11_layGoals 44 = .ok (.iload_n 3, 1) := by decide +kernel
theorem dX11_layGoals_45 : decode cX11_layGoals 45 = .ok (.bipush 8, 2) := by decide +kernel
theorem dX11_layGoals_47 : decode cX11_layGoals 47 = .ok (.if_icmp .ge 42, 3) := by decide +kernel
theorem dX11_layGoals_50 : decode cX11_layGoals 50 = .ok (.aload_n 0, 1) := by decide +kernel
theorem dX11_layGoals_51 : decode cX11_layGoals 51 = .ok (.getfield 31, 3) := by decide +kernel
theorem dX11_layGoals_54 : decode cX11_layGoals 54 = .ok (.iload_n 2, 1) := by decide +kernel
theorem dX11_layGoals_55 : decode cX11_layGoals 55 = .ok (.dup2, 1) := by decide +kernel
theorem dX11_layGoals_56 : decode cX11_layGoals 56 = .ok (.iaload, 1) := by decide +kernel
theorem dX11_layGoals_57 : decode cX11_layGoals 57 = .ok (.aload_n 0, 1) := by decide +kernel
theorem dX11_layGoals_58 : decode cX11_layGoals 58 = .ok (.getfield 28, 3) := by decide +kernel
theorem dX11_layGoals_61 : decode cX11_layGoals 61 = .ok (.iload_n 2, 1) := by decide +kernel
theorem dX11_layGoals_62 : decode cX11_layGoals 62 = .ok (.iaload, 1) := by decide +kernel
theorem dX11_layGoals_63 : decode cX11_layGoals 63 = .ok (.iload_n 3, 1) := by decide +kernel
theorem dX11_layGoals_64 : decode cX11_layGoals 64 = .ok (.ishr, 1) := by decide +kernel
theorem dX11_layGoals_65 : decode cX11_layGoals 65 = .ok (.iconst 1, 1) := by decide +kernel
theorem dX11_layGoals_66 : decode cX11_layGoals 66 = .ok (.iand, 1) := by decide +kernel
theorem dX11_layGoals_67 : decode cX11_layGoals 67 = .ok (.iconst 1, 1) := by decide +kernel
theorem dX11_layGoals_68 : decode cX11_layGoals 68 = .ok (.if_icmp .ne 12, 3) := by decide +kernel
theorem dX11_layGoals_71 : decode cX11_layGoals 71 = .ok (.aload_n 0, 1) := by decide +kernel
theorem dX11_layGoals_72 : decode cX11_layGoals 72 = .ok (.getfield 31, 3) := by decide +kernel
theorem dX11_layGoals_75 : decode cX11_layGoals 75 = .ok (.iload_n 3, 1) := by decide +kernel
theorem dX11_layGoals_76 : decode cX11_layGoals 76 = .ok (.iaload, 1) := by decide +kernel
theorem dX11_layGoals_77 : decode cX11_layGoals 77 = .ok (.goto 4, 3) := by decide +kernel
theorem dX11_layGoals_80 : decode cX11_layGoals 80 = .ok (.iconst 0, 1) := by decide +kernel
theorem dX11_layGoals_81 : decode cX11_layGoals 81 = .ok (.ior, 1) := by decide +kernel
theorem dX11_layGoals_82 : decode cX11_layGoals 82 = .ok (.iastore, 1) := by decide +kernel
theorem dX11_layGoals_83 : decode cX11_layGoals 83 = .ok (.iinc 3 1, 3) := by decide +kernel
theorem dX11_layGoals_86 : decode cX11_layGoals 86 = .ok (.goto (-42), 3) := by decide +kernel
theorem dX11_layGoals_89 : decode cX11_layGoals 89 = .ok (.iinc 2 1, 3) := by decide +kernel
theorem dX11_layGoals_92 : decode cX11_layGoals 92 = .ok (.goto (-56), 3) := by decide +kernel
theorem dX11_layGoals_95 : decode cX11_layGoals 95 = .ok (.iinc 1 1, 3) := by decide +kernel
theorem dX11_layGoals_98 : decode cX11_layGoals 98 = .ok (.goto (-70), 3) := by decide +kernel
theorem dX11_layGoals_101 : decode cX11_layGoals 101 = .ok (.return_, 1) := by decide +kernel
theorem dX11_goals_0 : decode cX11_goals 0 = .ok (.iload_n 1, 1) := by decide +kernel
theorem dX11_goals_1 : decode cX11_goals 1 = .ok (.invokestatic 114, 3) := by decide +kernel
theorem dX11_goals_4 : decode cX11_goals 4 = .ok (.ifCond .ne 5, 3) := by decide +kernel
theorem dX11_goals_7 : decode cX11_goals 7 = .ok (.iconst (-1), 1) := by decide +kernel
theorem dX11_goals_8 : decode cX11_goals 8 = .ok (.ireturn, 1) := by decide +kernel
theorem dX11_goals_9 : decode cX11_goals 9 = .ok (.aload_n 0, 1) := by decide +kernel
theorem dX11_goals_10 : decode cX11_goals 10 = .ok (.invokevirtual 128, 3) := by decide +kernel
theorem dX11_goals_13 : decode cX11_goals 13 = .ok (.aload_n 0, 1) := by decide +kernel
theorem dX11_goals_14 : decode cX11_goals 14 = .ok (.getfield 31, 3) := by decide +kernel
theorem dX11_goals_17 : decode cX11_goals 17 = .ok (.iload_n 1, 1) := by decide +kernel
theorem dX11_goals_18 : decode cX11_goals 18 = .ok (.iaload, 1) := by decide +kernel
theorem dX11_goals_19 : decode cX11_goals 19 = .ok (.ireturn, 1) := by decide +kernel
theorem dX11_layNet_0 : decode cX11_layNet 0 = .ok (.aload_n 0, 1) := by decide +kernel
theorem dX11_layNet_1 : decode cX11_layNet 1 = .ok (.invokevirtual 128, 3) := by decide +kernel
theorem dX11_layNet_4 : decode cX11_layNet 4 = .ok (.iconst 0, 1) := by decide +kernel
theorem dX11_layNet_5 : decode cX11_layNet 5 = .ok (.istore_n 1, 1) := by decide +kernel
theorem dX11_layNet_6 : decode cX11_layNet 6 = .ok (.iload_n 1, 1) := by decide +kernel
theorem dX11_layNet_7 : decode cX11_layNet 7 = .ok (.bipush 20, 2) := by decide +kernel
theorem dX11_layNet_9 : decode cX11_layNet 9 = .ok (.if_icmp .ge 23, 3) := by decide +kernel
theorem dX11_layNet_12 : decode cX11_layNet 12 = .ok (.aload_n 0, 1) := by decide +kernel
theorem dX11_layNet_13 : decode cX11_layNet 13 = .ok (.getfield 34, 3) := by decide +kernel
theorem dX11_layNet_16 : decode cX11_layNet 16 = .ok (.iload_n 1, 1) := by decide +kernel
theorem dX11_layNet_17 : decode cX11_layNet 17 = .ok (.iconst 0, 1) := by decide +kernel
theorem dX11_layNet_18 : decode cX11_layNet 18 = .ok (.iastore, 1) := by decide +kernel
theorem dX11_layNet_19 : decode cX11_layNet 19 = .ok (.aload_n 0, 1) := by decide +kernel
theorem dX11_layNet_20 : decode cX11_layNet 20 = .ok (.getfield 37, 3) := by decide +kernel
theorem dX11_layNet_23 : decode cX11_layNet 23 = .ok (.iload_n 1, 1) := by decide +kernel
theorem dX11_layNet_24 : decode cX11_layNet 24 = .ok (.iconst 0, 1) := by decide +kernel
theorem dX11_layNet_25 : decode cX11_layNet 25 = .ok (.iastore, 1) := by decide +kernel
theorem dX11_layNet_26 : decode cX11_layNet 26 = .ok (.iinc 1 1, 3) := by decide +kernel
theorem dX11_layNet_29 : decode cX11_layNet 29 = .ok (.goto (-23), 3) := by decide +kernel
theorem dX11_layNet_32 : decode cX11_layNet 32 = .ok (.iconst 0, 1) := by decide +kernel
theorem dX11_layNet_33 : decode cX11_layNet 33 = .ok (.istore_n 1, 1) := by decide +kernel
theorem dX11_layNet_34 : decode cX11_layNet 34 = .ok (.iload_n 1, 1) := by decide +kernel
theorem dX11_layNet_35 : decode cX11_layNet 35 = .ok (.aload_n 0, 1) := by decide +kernel
theorem dX11_layNet_36 : decode cX11_layNet 36 = .ok (.getfield 109, 3) := by decide +kernel
theorem dX11_layNet_39 : decode cX11_layNet 39 = .ok (.if_icmp .ge 86, 3) := by decide +kernel
theorem dX11_layNet_42 : decode cX11_layNet 42 = .ok (.aload_n 0, 1) := by decide +kernel
theorem dX11_layNet_43 : decode cX11_layNet 43 = .ok (.getfield 22, 3) := by decide +kernel
theorem dX11_layNet_46 : decode cX11_layNet 46 = .ok (.iload_n 1, 1) := by decide +kernel
theorem dX11_layNet_47 : decode cX11_layNet 47 = .ok (.iaload, 1) := by decide +kernel
theorem dX11_layNet_48 : decode cX11_layNet 48 = .ok (.iconst 1, 1) := by decide +kernel
theorem dX11_layNet_49 : decode cX11_layNet 49 = .ok (.if_icmp .le 17, 3) := by decide +kernel
theorem dX11_layNet_52 : decode cX11_layNet 52 = .ok (.aload_n 0, 1) := by decide +kernel
theorem dX11_layNet_53 : decode cX11_layNet 53 = .ok (.getfield 31, 3) := by decide +kernel
theorem dX11_layNet_56 : decode cX11_layNet 56 = .ok (.aload_n 0, 1) := by decide +kernel
theorem dX11_layNet_57 : decode cX11_layNet 57 = .ok (.getfield 19, 3) := by decide +kernel
theorem dX11_layNet_60 : decode cX11_layNet 60 = .ok (.iload_n 1, 1) := by decide +kernel
theorem dX11_layNet_61 : decode cX11_layNet 61 = .ok (.iaload, 1) := by decide +kernel
theorem dX11_layNet_62 : decode cX11_layNet 62 = .ok (.iaload, 1) := by decide +kernel
theorem dX11_layNet_63 : decode cX11_layNet 63 = .ok (.goto 11, 3) := by decide +kernel
theorem dX11_layNet_66 : decode cX11_layNet 66 = .ok (.iconst 1, 1) := by decide +kernel
theorem dX11_layNet_67 : decode cX11_layNet 67 = .ok (.aload_n 0, 1) := by decide +kernel
theorem dX11_layNet_68 : decode cX11_layNet 68 = .ok (.getfield 19, 3) := by decide +kernel
theorem dX11_layNet_71 : decode cX11_layNet 71 = .ok (.iload_n 1, 1) := by decide +kernel
theorem dX11_layNet_72 : decode cX11_layNet 72 = .ok (.iaload, 1) := by decide +kernel
theorem dX11_layNet_73 : decode cX11_layNet 73 = .ok (.ishl, 1) := by decide +kernel
theorem dX11_layNet_74 : decode cX11_layNet 74 = .ok (.istore_n 2, 1) := by decide +kernel
theorem dX11_layNet_75 : decode cX11_layNet 75 = .ok (.aload_n 0, 1) := by decide +kernel
theorem dX11_layNet_76 : decode cX11_layNet 76 = .ok (.getfield 22, 3) := by decide +kernel
theorem dX11_layNet_79 : decode cX11_layNet 79 = .ok (.iload_n 1, 1) := by decide +kernel
theorem dX11_layNet_80 : decode cX11_layNet 80 = .ok (.iaload, 1) := by decide +kernel
theorem dX11_layNet_81 : decode cX11_layNet 81 = .ok (.iconst 2, 1) := by decide +kernel
theorem dX11_layNet_82 : decode cX11_layNet 82 = .ok (.irem, 1) := by decide +kernel
theorem dX11_layNet_83 : decode cX11_layNet 83 = .ok (.ifCond .ne 21, 3) := by decide +kernel
theorem dX11_layNet_86 : decode cX11_layNet 86 = .ok (.aload_n 0, 1) := by decide +kernel
theorem dX11_layNet_87 : decode cX11_layNet 87 = .ok (.getfield 34, 3) := by decide +kernel
theorem dX11_layNet_90 : decode cX11_layNet 90 = .ok (.aload_n 0, 1) := by decide +kernel
theorem dX11_layNet_91 : decode cX11_layNet 91 = .ok (.getfield 16, 3) := by decide +kernel
theorem dX11_layNet_94 : decode cX11_layNet 94 = .ok (.iload_n 1, 1) := by decide +kernel
theorem dX11_layNet_95 : decode cX11_layNet 95 = .ok (.iaload, 1) := by decide +kernel
theorem dX11_layNet_96 : decode cX11_layNet 96 = .ok (.dup2, 1) := by decide +kernel
theorem dX11_layNet_97 : decode cX11_layNet 97 = .ok (.iaload, 1) := by decide +kernel
theorem dX11_layNet_98 : decode cX11_layNet 98 = .ok (.iload_n 2, 1) := by decide +kernel
theorem dX11_layNet_99 : decode cX11_layNet 99 = .ok (.ior, 1) := by decide +kernel
theorem dX11_layNet_100 : decode cX11_layNet 100 = .ok (.iastore, 1) := by decide +kernel
theorem dX11_layNet_101 : decode cX11_layNet 101 = .ok (.goto 18, 3) := by decide +kernel
theorem dX11_layNet_104 : decode cX11_layNet 104 = .ok (.aload_n 0, 1) := by decide +kernel
theorem dX11_layNet_105 : decode cX11_layNet 105 = .ok (.getfield 37, 3) := by decide +kernel
theorem dX11_layNet_108 : decode cX11_layNet 108 = .ok (.aload_n 0, 1) := by decide +kernel
theorem dX11_layNet_109 : decode cX11_layNet 109 = .ok (.getfield 16, 3) := by decide +kernel
theorem dX11_layNet_112 : decode cX11_layNet 112 = .ok (.iload_n 1, 1) := by decide +kernel
theorem dX11_layNet_113 : decode cX11_layNet 113 = .ok (.iaload, 1) := by decide +kernel
theorem dX11_layNet_114 : decode cX11_layNet 114 = .ok (.dup2, 1) := by decide +kernel
theorem dX11_layNet_115 : decode cX11_layNet 115 = .ok (.iaload, 1) := by decide +kernel
theorem dX11_layNet_116 : decode cX11_layNet 116 = .ok (.iload_n 2, 1) := by decide +kernel
theorem dX11_layNet_117 : decode cX11_layNet 117 = .ok (.ior, 1) := by decide +kernel
theorem dX11_layNet_118 : decode cX11_layNet 118 = .ok (.iastore, 1) := by decide +kernel
theorem dX11_layNet_119 : decode cX11_layNet 119 = .ok (.iinc 1 1, 3) := by decide +kernel
theorem dX11_layNet_122 : decode cX11_layNet 122 = .ok (.goto (-88), 3) := by decide +kernel
theorem dX11_layNet_125 : decode cX11_layNet 125 = .ok (.iconst 0, 1) := by decide +kernel
theorem dX11_layNet_126 : decode cX11_layNet 126 = .ok (.istore_n 1, 1) := by decide +kernel
theorem dX11_layNet_127 : decode cX11_layNet 127 = .ok (.iload_n 1, 1) := by decide +kernel
theorem dX11_layNet_128 : decode cX11_layNet 128 = .ok (.aload_n 0, 1) := by decide +kernel
theorem dX11_layNet_129 : decode cX11_layNet 129 = .ok (.getfield 91, 3) := by decide +kernel
theorem dX11_layNet_132 : decode cX11_layNet 132 = .ok (.if_icmp .ge 28, 3) := by decide +kernel
theorem dX11_layNet_135 : decode cX11_layNet 135 = .ok (.aload_n 0, 1) := by decide +kernel
theorem dX11_layNet_136 : decode cX11_layNet 136 = .ok (.getfield 40, 3) := by decide +kernel
theorem dX11_layNet_139 : decode cX11_layNet 139 = .ok (.iload_n 1, 1) := by decide +kernel
theorem dX11_layNet_140 : decode cX11_layNet 140 = .ok (.aload_n 0, 1) := by decide +kernel
theorem dX11_layNet_141 : decode cX11_layNet 141 = .ok (.getfield 34, 3) := by decide +kernel
theorem dX11_layNet_144 : decode cX11_layNet 144 = .ok (.iload_n 1, 1) := by decide +kernel
theorem dX11_layNet_145 : decode cX11_layNet 145 = .ok (.iaload, 1) := by decide +kernel
theorem dX11_layNet_146 : decode cX11_layNet 146 = .ok (.aload_n 0, 1) := by decide +kernel
theorem dX11_layNet_147 : decode cX11_layNet 147 = .ok (.getfield 37, 3) := by decide +kernel
theorem dX11_layNet_150 : decode cX11_layNet 150 = .ok (.iload_n 1, 1) := by decide +kernel
theorem dX11_layNet_151 : decode cX11_layNet 151 = .ok (.iaload, 1) := by decide +kernel
theorem dX11_layNet_152 : decode cX11_layNet 152 = .ok (.ior, 1) := by decide +kernel
theorem dX11_layNet_153 : decode cX11_layNet 153 = .ok (.iastore, 1) := by decide +kernel
theorem dX11_layNet_154 : decode cX11_layNet 154 = .ok (.iinc 1 1, 3) := by decide +kernel
theorem dX11_layNet_157 : decode cX11_layNet 157 = .ok (.goto (-30), 3) := by decide +kernel
theorem dX11_layNet_160 : decode cX11_layNet 160 = .ok (.iconst 0, 1) := by decide +kernel
theorem dX11_layNet_161 : decode cX11_layNet 161 = .ok (.istore_n 1, 1) := by decide +kernel
theorem dX11_layNet_162 : decode cX11_layNet 162 = .ok (.iload_n 1, 1) := by decide +kernel
theorem dX11_layNet_163 : decode cX11_layNet 163 = .ok (.aload_n 0, 1) := by decide +kernel
theorem dX11_layNet_164 : decode cX11_layNet 164 = .ok (.getfield 91, 3) := by decide +kernel
theorem dX11_layNet_167 : decode cX11_layNet 167 = .ok (.if_icmp .ge 58, 3) := by decide +kernel
theorem dX11_layNet_170 : decode cX11_layNet 170 = .ok (.iconst 0, 1) := by decide +kernel
theorem dX11_layNet_171 : decode cX11_layNet 171 = .ok (.istore_n 2, 1) := by decide +kernel
theorem dX11_layNet_172 : decode cX11_layNet 172 = .ok (.iload_n 2, 1) := by decide +kernel
theorem dX11_layNet_173 : decode cX11_layNet 173 = .ok (.aload_n 0, 1) := by decide +kernel
theorem dX11_layNet_174 : decode cX11_layNet 174 = .ok (.getfield 91, 3) := by decide +kernel
theorem dX11_layNet_177 : decode cX11_layNet 177 = .ok (.if_icmp .ge 42, 3) := by decide +kernel
theorem dX11_layNet_180 : decode cX11_layNet 180 = .ok (.aload_n 0, 1) := by decide +kernel
theorem dX11_layNet_181 : decode cX11_layNet 181 = .ok (.getfield 40, 3) := by decide +kernel
theorem dX11_layNet_184 : decode cX11_layNet 184 = .ok (.iload_n 2, 1) := by decide +kernel
theorem dX11_layNet_185 : decode cX11_layNet 185 = .ok (.dup2, 1) := by decide +kernel
theorem dX11_layNet_186 : decode cX11_layNet 186 = .ok (.iaload, 1) := by decide +kernel
theorem dX11_layNet_187 : decode cX11_layNet 187 = .ok (.aload_n 0, 1) := by decide +kernel
theorem dX11_layNet_188 : decode cX11_layNet 188 = .ok (.getfield 40, 3) := by decide +kernel
theorem dX11_layNet_191 : decode cX11_layNet 191 = .ok (.iload_n 2, 1) := by decide +kernel
theorem dX11_layNet_192 : decode cX11_layNet 192 = .ok (.iaload, 1) := by decide +kernel
theorem dX11_layNet_193 : decode cX11_layNet 193 = .ok (.iload_n 1, 1) := by decide +kernel
theorem dX11_layNet_194 : decode cX11_layNet 194 = .ok (.ishr, 1) := by decide +kernel
theorem dX11_layNet_195 : decode cX11_layNet 195 = .ok (.iconst 1, 1) := by decide +kernel
theorem dX11_layNet_196 : decode cX11_layNet 196 = .ok (.iand, 1) := by decide +kernel
theorem dX11_layNet_197 : decode cX11_layNet 197 = .ok (.iconst 1, 1) := by decide +kernel
theorem dX11_layNet_198 : decode cX11_layNet 198 = .ok (.if_icmp .ne 12, 3) := by decide +kernel
theorem dX11_layNet_201 : decode cX11_layNet 201 = .ok (.aload_n 0, 1) := by decide +kernel
theorem dX11_layNet_202 : decode cX11_layNet 202 = .ok (.getfield 40, 3) := by decide +kernel
theorem dX11_layNet_205 : decode cX11_layNet 205 = .ok (.iload_n 1, 1) := by decide +kernel
theorem dX11_layNet_206 : decode cX11_layNet 206 = .ok (.iaload, 1) := by decide +kernel
theorem dX11_layNet_207 : decode cX11_layNet 207 = .ok (.goto 4, 3) := by decide +kernel
theorem dX11_layNet_210 : decode cX11_layNet 210 = .ok (.iconst 0, 1) := by decide +kernel
theorem dX11_layNet_211 : decode cX11_layNet 211 = .ok (.ior, 1) := by decide +kernel
theorem dX11_layNet_212 : decode cX11_layNet 212 = .ok (.iastore, 1) := by decide +kernel
theorem dX11_layNet_213 : decode cX11_layNet 213 = .ok (.iinc 2 1, 3) := by decide +kernel
theorem dX11_layNet_216 : decode cX11_layNet 216 = .ok (.goto (-44), 3) := by decide +kernel
theorem dX11_layNet_219 : decode cX11_layNet 219 = .ok (.iinc 1 1, 3) := by decide +kernel
theorem dX11_layNet_222 : decode cX11_layNet 222 = .ok (.goto (-60), 3) := by decide +kernel
theorem dX11_layNet_225 : decode cX11_layNet 225 = .ok (.iconst 0, 1) := by decide +kernel
theorem dX11_layNet_226 : decode cX11_layNet 226 = .ok (.istore_n 1, 1) := by decide +kernel
theorem dX11_layNet_227 : decode cX11_layNet 227 = .ok (.iload_n 1, 1) := by decide +kernel
theorem dX11_layNet_228 : decode cX11_layNet 228 = .ok (.aload_n 0, 1) := by decide +kernel
theorem dX11_layNet_229 : decode cX11_layNet 229 = .ok (.getfield 91, 3) := by decide +kernel
theorem dX11_layNet_232 : decode cX11_layNet 232 = .ok (.if_icmp .ge 78, 3) := by decide +kernel
theorem dX11_layNet_235 : decode cX11_layNet 235 = .ok (.aload_n 0, 1) := by decide +kernel
theorem dX11_layNet_236 : decode cX11_layNet 236 = .ok (.getfield 43, 3) := by decide +kernel
theorem dX11_layNet_239 : decode cX11_layNet 239 = .ok (.iload_n 1, 1) := by decide +kernel
theorem dX11_layNet_240 : decode cX11_layNet 240 = .ok (.iconst 1, 1) := by decide +kernel
theorem dX11_layNet_241 : decode cX11_layNet 241 = .ok (.iload_n 1, 1) := by decide +kernel
theorem dX11_layNet_242 : decode cX11_layNet 242 = .ok (.ishl, 1) := by decide +kernel
theorem dX11_layNet_243 : decode cX11_layNet 243 = .ok (.iastore, 1) := by decide +kernel
theorem dX11_layNet_244 : decode cX11_layNet 244 = .ok (.iconst 0, 1) := by decide +kernel
theorem dX11_layNet_245 : decode cX11_layNet 245 = .ok (.istore_n 2, 1) := by decide +kernel
theorem dX11_layNet_246 : decode cX11_layNet 246 = .ok (.iload_n 2, 1) := by decide +kernel
theorem dX11_layNet_247 : decode cX11_layNet 247 = .ok (.aload_n 0, 1) := by decide +kernel
theorem dX11_layNet_248 : decode cX11_layNet 248 = .ok (.getfield 91, 3) := by decide +kernel
theorem dX11_layNet_251 : decode cX11_layNet 251 = .ok (.if_icmp .ge 53, 3) := by decide +kernel
theorem dX11_layNet_254 : decode cX11_layNet 254 = .ok (.aload_n 0, 1) := by decide +kernel
theorem dX11_layNet_255 : decode cX11_layNet 255 = .ok (.getfield 43, 3) := by decide +kernel
theorem dX11_layNet_258 : decode cX11_layNet 258 = .ok (.iload_n 1, 1) := by decide +kernel
theorem dX11_layNet_259 : decode cX11_layNet 259 = .ok (.dup2, 1) := by decide +kernel
theorem dX11_layNet_260 : decode cX11_layNet 260 = .ok (.iaload, 1) := by decide +kernel
theorem dX11_layNet_261 : decode cX11_layNet 261 = .ok (.aload_n 0, 1) := by decide +kernel
theorem dX11_layNet_262 : decode cX11_layNet 262 = .ok (.getfield 40, 3) := by decide +kernel
theorem dX11_layNet_265 : decode cX11_layNet 265 = .ok (.iload_n 1, 1) := by decide +kernel
theorem dX11_layNet_266 : decode cX11_layNet 266 = .ok (.iaload, 1) := by decide +kernel
theorem dX11_layNet_267 : decode cX11_layNet 267 = .ok (.iload_n 2, 1) := by decide +kernel
theorem dX11_layNet_268 : decode cX11_layNet 268 = .ok (.ishr, 1) := by decide +kernel
theorem dX11_layNet_269 : decode cX11_layNet 269 = .ok (.iconst 1, 1) := by decide +kernel
theorem dX11_layNet_270 : decode cX11_layNet 270 = .ok (.iand, 1) := by decide +kernel
theorem dX11_layNet_271 : decode cX11_layNet 271 = .ok (.iconst 1, 1) := by decide +kernel
theorem dX11_layNet_272 : decode cX11_layNet 272 = .ok (.if_icmp .ne 23, 3) := by decide +kernel
theorem dX11_layNet_275 : decode cX11_layNet 275 = .ok (.aload_n 0, 1) := by decide +kernel
theorem dX11_layNet_276 : decode cX11_layNet 276 = .ok (.getfield 40, 3) := by decide +kernel
theorem dX11_layNet_279 : decode cX11_layNet 279 = .ok (.iload_n 2, 1) := by decide +kernel
theorem dX11_layNet_280 : decode cX11_layNet 280 = .ok (.iaload, 1) := by decide +kernel
theorem dX11_layNet_281 : decode cX11_layNet 281 = .ok (.iload_n 1, 1) := by decide +kernel
theorem dX11_layNet_282 : decode cX11_layNet 282 = .ok (.ishr, 1) := by decide +kernel
theorem dX11_layNet_283 : decode cX11_layNet 283 = .ok (.iconst 1, 1) := by decide +kernel
theorem dX11_layNet_284 : decode cX11_layNet 284 = .ok (.iand, 1) := by decide +kernel
theorem dX11_layNet_285 : decode cX11_layNet 285 = .ok (.iconst 1, 1) := by decide +kernel
theorem dX11_layNet_286 : decode cX11_layNet 286 = .ok (.if_icmp .ne 9, 3) := by decide +kernel
theorem dX11_layNet_289 : decode cX11_layNet 289 = .ok (.iconst 1, 1) := by decide +kernel
theorem dX11_layNet_290 : decode cX11_layNet 290 = .ok (.iload_n 2, 1) := by decide +kernel
theorem dX11_layNet_291 : decode cX11_layNet 291 = .ok (.ishl, 1) := by decide +kernel
theorem dX11_layNet_292 : decode cX11_layNet 292 = .ok (.goto 4, 3) := by decide +kernel
theorem dX11_layNet_295 : decode cX11_layNet 295 = .ok (.iconst 0, 1) := by decide +kernel
theorem dX11_layNet_296 : decode cX11_layNet 296 = .ok (.ior, 1) := by decide +kernel
theorem dX11_layNet_297 : decode cX11_layNet 297 = .ok (.iastore, 1) := by decide +kernel
theorem dX11_layNet_298 : decode cX11_layNet 298 = .ok (.iinc 2 1, 3) := by decide +kernel
theorem dX11_layNet_301 : decode cX11_layNet 301 = .ok (.goto (-55), 3) := by decide +kernel
theorem dX11_layNet_304 : decode cX11_layNet 304 = .ok (.iinc 1 1, 3) := by decide +kernel
theorem dX11_layNet_307 : decode cX11_layNet 307 = .ok (.goto (-80), 3) := by decide +kernel
theorem dX11_layNet_310 : decode cX11_layNet 310 = .ok (.return_, 1) := by decide +kernel
theorem dX11_isRing_0 : decode cX11_isRing 0 = .ok (.iconst 0, 1) := by decide +kernel
theorem dX11_isRing_1 : decode cX11_isRing 1 = .ok (.istore_n 2, 1) := by decide +kernel
theorem dX11_isRing_2 : decode cX11_isRing 2 = .ok (.iconst 0, 1) := by decide +kernel
theorem dX11_isRing_3 : decode cX11_isRing 3 = .ok (.istore_n 3, 1) := by decide +kernel
theorem dX11_isRing_4 : decode cX11_isRing 4 = .ok (.iload_n 3, 1) := by decide +kernel
theorem dX11_isRing_5 : decode cX11_isRing 5 = .ok (.aload_n 0, 1) := by decide +kernel
theorem dX11_isRing_6 : decode cX11_isRing 6 = .ok (.getfield 91, 3) := by decide +kernel
theorem dX11_isRing_9 : decode cX11_isRing 9 = .ok (.if_icmp .ge 49, 3) := by decide +kernel
theorem dX11_isRing_12 : decode cX11_isRing 12 = .ok (.iload_n 2, 1) := by decide +kernel
theorem dX11_isRing_13 : decode cX11_isRing 13 = .ok (.ifCond .ne 33, 3) := by decide +kernel
theorem dX11_isRing_16 : decode cX11_isRing 16 = .ok (.aload_n 0, 1) := by decide +kernel
theorem dX11_isRing_17 : decode cX11_isRing 17 = .ok (.getfield 43, 3) := by decide +kernel
theorem dX11_isRing_20 : decode cX11_isRing 20 = .ok (.iload_n 1, 1) := by decide +kernel
theorem dX11_isRing_21 : decode cX11_isRing 21 = .ok (.iaload, 1) := by decide +kernel
theorem dX11_isRing_22 : decode cX11_isRing 22 = .ok (.iload_n 3, 1) := by decide +kernel
theorem dX11_isRing_23 : decode cX11_isRing 23 = .ok (.ishr, 1) := by decide +kernel
theorem dX11_isRing_24 : decode cX11_isRing 24 = .ok (.iconst 1, 1) := by decide +kernel
theorem dX11_isRing_25 : decode cX11_isRing 25 = .ok (.iand, 1) := by decide +kernel
theorem dX11_isRing_26 : decode cX11_isRing 26 = .ok (.iconst 1, 1) := by decide +kernel
theorem dX11_isRing_27 : decode cX11_isRing 27 = .ok (.if_icmp .ne 23, 3) := by decide +kernel
theorem dX11_isRing_30 : decode cX11_isRing 30 = .ok (.aload_n 0, 1) := by decide +kernel
theorem dX11_isRing_31 : decode cX11_isRing 31 = .ok (.getfield 34, 3) := by decide +kernel
theorem dX11_isRing_34 : decode cX11_isRing 34 = .ok (.iload_n 3, 1) := by decide +kernel
theorem dX11_isRing_35 : decode cX11_isRing 35 = .ok (.iaload, 1) := by decide +kernel
theorem dX11_isRing_36 : decode cX11_isRing 36 = .ok (.aload_n 0, 1) := by decide +kernel
theorem dX11_isRing_37 : decode cX11_isRing 37 = .ok (.getfield 43, 3) := by decide +kernel
theorem dX11_isRing_40 : decode cX11_isRing 40 = .ok (.iload_n 1, 1) := by decide +kernel
theorem dX11_isRing_41 : decode cX11_isRing 41 = .ok (.iaload, 1) := by decide +kernel
theorem dX11_isRing_42 : decode cX11_isRing 42 = .ok (.iand, 1) := by decide +kernel
theorem dX11_isRing_43 : decode cX11_isRing 43 = .ok (.ifCond .eq 7, 3) := by decide +kernel
theorem dX11_isRing_46 : decode cX11_isRing 46 = .ok (.iconst 1, 1) := by decide +kernel
theorem dX11_isRing_47 : decode cX11_isRing 47 = .ok (.goto 4, 3) := by decide +kernel
theorem dX11_isRing_50 : decode cX11_isRing 50 = .ok (.iconst 0, 1) := by decide +kernel
theorem dX11_isRing_51 : decode cX11_isRing 51 = .ok (.istore_n 2, 1) := by decide +kernel
theorem dX11_isRing_52 : decode cX11_isRing 52 = .ok (.iinc 3 1, 3) := by decide +kernel
theorem dX11_isRing_55 : decode cX11_isRing 55 = .ok (.goto (-51), 3) := by decide +kernel
theorem dX11_isRing_58 : decode cX11_isRing 58 = .ok (.iload_n 2, 1) := by decide +kernel
theorem dX11_isRing_59 : decode cX11_isRing 59 = .ok (.ireturn, 1) := by decide +kernel
theorem dX11_leastOf_0 : decode cX11_leastOf 0 = .ok (.iconst 0, 1) := by decide +kernel
theorem dX11_leastOf_1 : decode cX11_leastOf 1 = .ok (.istore_n 1, 1) := by decide +kernel
theorem dX11_leastOf_2 : decode cX11_leastOf 2 = .ok (.iload_n 0, 1) := by decide +kernel
theorem dX11_leastOf_3 : decode cX11_leastOf 3 = .ok (.iload_n 1, 1) := by decide +kernel
theorem dX11_leastOf_4 : decode cX11_leastOf 4 = .ok (.ishr, 1) := by decide +kernel
theorem dX11_leastOf_5 : decode cX11_leastOf 5 = .ok (.iconst 1, 1) := by decide +kernel
theorem dX11_leastOf_6 : decode cX11_leastOf 6 = .ok (.iand, 1) := by decide +kernel
theorem dX11_leastOf_7 : decode cX11_leastOf 7 = .ok (.ifCond .ne 9, 3) := by decide +kernel
theorem dX11_leastOf_10 : decode cX11_leastOf 10 = .ok (.iinc 1 1, 3) := by decide +kernel
theorem dX11_leastOf_13 : decode cX11_leastOf 13 = .ok (.goto (-11), 3) := by decide +kernel
theorem dX11_leastOf_16 : decode cX11_leastOf 16 = .ok (.iload_n 1, 1) := by decide +kernel
theorem dX11_leastOf_17 : decode cX11_leastOf 17 = .ok (.ireturn, 1) := by decide +kernel
theorem dX11_sizeOf_0 : decode cX11_sizeOf 0 = .ok (.iconst 0, 1) := by decide +kernel
theorem dX11_sizeOf_1 : decode cX11_sizeOf 1 = .ok (.istore_n 1, 1) := by decide +kernel
theorem dX11_sizeOf_2 : decode cX11_sizeOf 2 = .ok (.iconst 0, 1) := by decide +kernel
theorem dX11_sizeOf_3 : decode cX11_sizeOf 3 = .ok (.istore_n 2, 1) := by decide +kernel
theorem dX11_sizeOf_4 : decode cX11_sizeOf 4 = .ok (.iload_n 2, 1) := by decide +kernel
theorem dX11_sizeOf_5 : decode cX11_sizeOf 5 = .ok (.bipush 20, 2) := by decide +kernel
theorem dX11_sizeOf_7 : decode cX11_sizeOf 7 = .ok (.if_icmp .ge 17, 3) := by decide +kernel
theorem dX11_sizeOf_10 : decode cX11_sizeOf 10 = .ok (.iload_n 1, 1) := by decide +kernel
theorem dX11_sizeOf_11 : decode cX11_sizeOf 11 = .ok (.iload_n 0, 1) := by decide +kernel
theorem dX11_sizeOf_12 : decode cX11_sizeOf 12 = .ok (.iload_n 2, 1) := by decide +kernel
theorem dX11_sizeOf_13 : decode cX11_sizeOf 13 = .ok (.ishr, 1) := by decide +kernel
theorem dX11_sizeOf_14 : decode cX11_sizeOf 14 = .ok (.iconst 1, 1) := by decide +kernel
theorem dX11_sizeOf_15 : decode cX11_sizeOf 15 = .ok (.iand, 1) := by decide +kernel
theorem dX11_sizeOf_16 : decode cX11_sizeOf 16 = .ok (.iadd, 1) := by decide +kernel
theorem dX11_sizeOf_17 : decode cX11_sizeOf 17 = .ok (.istore_n 1, 1) := by decide +kernel
theorem dX11_sizeOf_18 : decode cX11_sizeOf 18 = .ok (.iinc 2 1, 3) := by decide +kernel
theorem dX11_sizeOf_21 : decode cX11_sizeOf 21 = .ok (.goto (-17), 3) := by decide +kernel
theorem dX11_sizeOf_24 : decode cX11_sizeOf 24 = .ok (.iload_n 1, 1) := by decide +kernel
theorem dX11_sizeOf_25 : decode cX11_sizeOf 25 = .ok (.ireturn, 1) := by decide +kernel
theorem dX11_about_0 : decode cX11_about 0 = .ok (.aload_n 0, 1) := by decide +kernel
theorem dX11_about_1 : decode cX11_about 1 = .ok (.iload_n 1, 1) := by decide +kernel
theorem dX11_about_2 : decode cX11_about 2 = .ok (.invokevirtual 103, 3) := by decide +kernel
theorem dX11_about_5 : decode cX11_about 5 = .ok (.ifCond .eq 15, 3) := by decide +kernel
theorem dX11_about_8 : decode cX11_about 8 = .ok (.iload_n 2, 1) := by decide +kernel
theorem dX11_about_9 : decode cX11_about 9 = .ok (.i2l, 1) := by decide +kernel
theorem dX11_about_10 : decode cX11_about 10 = .ok (.lconst 0, 1) := by decide +kernel
theorem dX11_about_11 : decode cX11_about 11 = .ok (.ldc2_w 131, 3) := by decide +kernel
theorem dX11_about_14 : decode cX11_about 14 = .ok (.invokestatic 95, 3) := by decide +kernel
theorem dX11_about_17 : decode cX11_about 17 = .ok (.ifCond .ne 5, 3) := by decide +kernel
theorem dX11_about_20 : decode cX11_about 20 = .ok (.iconst (-1), 1) := by decide +kernel
theorem dX11_about_21 : decode cX11_about 21 = .ok (.ireturn, 1) := by decide +kernel
theorem dX11_about_22 : decode cX11_about 22 = .ok (.aload_n 0, 1) := by decide +kernel
theorem dX11_about_23 : decode cX11_about 23 = .ok (.invokevirtual 133, 3) := by decide +kernel
theorem dX11_about_26 : decode cX11_about 26 = .ok (.iconst 0, 1) := by decide +kernel
theorem dX11_about_27 : decode cX11_about 27 = .ok (.istore_n 3, 1) := by decide +kernel
theorem dX11_about_28 : decode cX11_about 28 = .ok (.iconst 0, 1) := by decide +kernel
theorem dX11_about_29 : decode cX11_about 29 = .ok (.istore 4, 2) := by decide +kernel
theorem dX11_about_31 : decode cX11_about 31 = .ok (.iload 4, 2) := by decide +kernel
theorem dX11_about_33 : decode cX11_about 33 = .ok (.aload_n 0, 1) := by decide +kernel
theorem dX11_about_34 : decode cX11_about 34 = .ok (.getfield 91, 3) := by decide +kernel
theorem dX11_about_37 : decode cX11_about 37 = .ok (.if_icmp .ge 23, 3) := by decide +kernel
theorem dX11_about_40 : decode cX11_about 40 = .ok (.iload_n 3, 1) := by decide +kernel
theorem dX11_about_41 : decode cX11_about 41 = .ok (.aload_n 0, 1) := by decide +kernel
theorem dX11_about_42 : decode cX11_about 42 = .ok (.getfield 40, 3) := by decide +kernel
theorem dX11_about_45 : decode cX11_about 45 = .ok (.iload 4, 2) := by decide +kernel
theorem dX11_about_47 : decode cX11_about 47 = .ok (.iaload, 1) := by decide +kernel
theorem dX11_about_48 : decode cX11_about 48 = .ok (.iload_n 1, 1) := by decide +kernel
theorem dX11_about_49 : decode cX11_about 49 = .ok (.ishr, 1) := by decide +kernel
theorem dX11_about_50 : decode cX11_about 50 = .ok (.iconst 1, 1) := by decide +kernel
theorem dX11_about_51 : decode cX11_about 51 = .ok (.iand, 1) := by decide +kernel
theorem dX11_about_52 : decode cX11_about 52 = .ok (.iadd, 1) := by decide +kernel
theorem dX11_about_53 : decode cX11_about 53 = .ok (.istore_n 3, 1) := by decide +kernel
theorem dX11_about_54 : decode cX11_about 54 = .ok (.iinc 4 1, 3) := by decide +kernel
theorem dX11_about_57 : decode cX11_about 57 = .ok (.goto (-26), 3) := by decide +kernel
theorem dX11_about_60 : decode cX11_about 60 = .ok (.iload_n 2, 1) := by decide +kernel
theorem dX11_about_61 : decode cX11_about 61 = .ok (.ifCond .ne 12, 3) := by decide +kernel
theorem dX11_about_64 : decode cX11_about 64 = .ok (.aload_n 0, 1) := by decide +kernel
theorem dX11_about_65 : decode cX11_about 65 = .ok (.getfield 7, 3) := by decide +kernel
theorem dX11_about_68 : decode cX11_about 68 = .ok (.iload_n 1, 1) := by decide +kernel
theorem dX11_about_69 : decode cX11_about 69 = .ok (.iaload, 1) := by decide +kernel
theorem dX11_about_70 : decode cX11_about 70 = .ok (.goto 73, 3) := by decide +kernel
theorem dX11_about_73 : decode cX11_about 73 = .ok (.iload_n 2, 1) := by decide +kernel
theorem dX11_about_74 : decode cX11_about 74 = .ok (.iconst 1, 1) := by decide +kernel
theorem dX11_about_75 : decode cX11_about 75 = .ok (.if_icmp .ne 12, 3) := by decide +kernel
theorem dX11_about_78 : decode cX11_about 78 = .ok (.aload_n 0, 1) := by decide +kernel
theorem dX11_about_79 : decode cX11_about 79 = .ok (.getfield 13, 3) := by decide +kernel
theorem dX11_about_82 : decode cX11_about 82 = .ok (.iload_n 1, 1) := by decide +kernel
theorem dX11_about_83 : decode cX11_about 83 = .ok (.iaload, 1) := by decide +kernel
theorem dX11_about_84 : decode cX11_about 84 = .ok (.goto 59, 3) := by decide +kernel
theorem dX11_about_87 : decode cX11_about 87 = .ok (.iload_n 2, 1) := by decide +kernel
theorem dX11_about_88 : decode cX11_about 88 = .ok (.iconst 2, 1) := by decide +kernel
theorem dX11_about_89 : decode cX11_about 89 = .ok (.if_icmp .ne 19, 3) := by decide +kernel
theorem dX11_about_92 : decode cX11_about 92 = .ok (.aload_n 0, 1) := by decide +kernel
theorem dX11_about_93 : decode cX11_about 93 = .ok (.iload_n 1, 1) := by decide +kernel
theorem dX11_about_94 : decode cX11_about 94 = .ok (.invokevirtual 136, 3) := by decide +kernel
theorem dX11_about_97 : decode cX11_about 97 = .ok (.ifCond .eq 7, 3) := by decide +kernel
theorem dX11_about_100 : decode cX11_about 100 = .ok (.iconst 1, 1) := by decide +kernel
theorem dX11_about_101 : decode cX11_about 101 = .ok (.goto 42, 3) := by decide +kernel
theorem dX11_about_104 : decode cX11_about 104 = .ok (.iconst 0, 1) := by decide +kernel
theorem dX11_about_105 : decode cX11_about 105 = .ok (.goto 38, 3) := by decide +kernel
theorem dX11_about_108 : decode cX11_about 108 = .ok (.iload_n 2, 1) := by decide +kernel
theorem dX11_about_109 : decode cX11_about 109 = .ok (.iconst 3, 1) := by decide +kernel
theorem dX11_about_110 : decode cX11_about 110 = .ok (.if_icmp .ne 15, 3) := by decide +kernel
theorem dX11_about_113 : decode cX11_about 113 = .ok (.aload_n 0, 1) := by decide +kernel
theorem dX11_about_114 : decode cX11_about 114 = .ok (.getfield 43, 3) := by decide +kernel
theorem dX11_about_117 : decode cX11_about 117 = .ok (.iload_n 1, 1) := by decide +kernel
theorem dX11_about_118 : decode cX11_about 118 = .ok (.iaload, 1) := by decide +kernel
theorem dX11_about_119 : decode cX11_about 119 = .ok (.invokestatic 139, 3) := by decide +kernel
theorem dX11_about_122 : decode cX11_about 122 = .ok (.goto 21, 3) := by decide +kernel
theorem dX11_about_125 : decode cX11_about 125 = .ok (.iload_n 2, 1) := by decide +kernel
theorem dX11_about_126 : decode cX11_about 126 = .ok (.iconst 4, 1) := by decide +kernel
theorem dX11_about_127 : decode cX11_about 127 = .ok (.if_icmp .ne 15, 3) := by decide +kernel
theorem dX11_about_130 : decode cX11_about 130 = .ok (.aload_n 0, 1) := by decide +kernel
theorem dX11_about_131 : decode cX11_about 131 = .ok (.getfield 40, 3) := by decide +kernel
theorem dX11_about_134 : decode cX11_about 134 = .ok (.iload_n 1, 1) := by decide +kernel
theorem dX11_about_135 : decode cX11_about 135 = .ok (.iaload, 1) := by decide +kernel
theorem dX11_about_136 : decode cX11_about 136 = .ok (.invokestatic 143, 3) := by decide +kernel
theorem dX11_about_139 : decode cX11_about 139 = .ok (.goto 4, 3) := by decide +kernel
theorem dX11_about_142 : decode cX11_about 142 = .ok (.iload_n 3, 1) := by decide +kernel
theorem dX11_about_143 : decode cX11_about 143 = .ok (.ireturn, 1) := by decide +kernel
theorem dX11_greatest_0 : decode cX11_greatest 0 = .ok (.iconst 0, 1) := by decide +kernel
theorem dX11_greatest_1 : decode cX11_greatest 1 = .ok (.istore_n 2, 1) := by decide +kernel
theorem dX11_greatest_2 : decode cX11_greatest 2 = .ok (.iconst 1, 1) := by decide +kernel
theorem dX11_greatest_3 : decode cX11_greatest 3 = .ok (.istore_n 3, 1) := by decide +kernel
theorem dX11_greatest_4 : decode cX11_greatest 4 = .ok (.iconst 1, 1) := by decide +kernel
theorem dX11_greatest_5 : decode cX11_greatest 5 = .ok (.istore 4, 2) := by decide +kernel
theorem dX11_greatest_7 : decode cX11_greatest 7 = .ok (.iconst 0, 1) := by decide +kernel
theorem dX11_greatest_8 : decode cX11_greatest 8 = .ok (.istore 5, 2) := by decide +kernel
theorem dX11_greatest_10 : decode cX11_greatest 10 = .ok (.iload 5, 2) := by decide +kernel
theorem dX11_greatest_12 : decode cX11_greatest 12 = .ok (.aload_n 0, 1) := by decide +kernel
theorem dX11_greatest_13 : decode cX11_greatest 13 = .ok (.getfield 91, 3) := by decide +kernel
theorem dX11_greatest_16 : decode cX11_greatest 16 = .ok (.if_icmp .ge 88, 3) := by decide +kernel
theorem dX11_greatest_19 : decode cX11_greatest 19 = .ok (.iload_n 1, 1) := by decide +kernel
theorem dX11_greatest_20 : decode cX11_greatest 20 = .ok (.iload 5, 2) := by decide +kernel
theorem dX11_greatest_22 : decode cX11_greatest 22 = .ok (.ishr, 1) := by decide +kernel
theorem dX11_greatest_23 : decode cX11_greatest 23 = .ok (.iconst 1, 1) := by decide +kernel
theorem dX11_greatest_24 : decode cX11_greatest 24 = .ok (.iand, 1) := by decide +kernel
theorem dX11_greatest_25 : decode cX11_greatest 25 = .ok (.iconst 1, 1) := by decide +kernel
theorem dX11_greatest_26 : decode cX11_greatest 26 = .ok (.if_icmp .ne 72, 3) := by decide +kernel
theorem dX11_greatest_29 : decode cX11_greatest 29 = .ok (.iload_n 3, 1) := by decide +kernel
theorem dX11_greatest_30 : decode cX11_greatest 30 = .ok (.ifCond .eq 19, 3) := by decide +kernel
theorem dX11_greatest_33 : decode cX11_greatest 33 = .ok (.aload_n 0, 1) := by decide +kernel
theorem dX11_greatest_34 : decode cX11_greatest 34 = .ok (.getfield 46, 3) := by decide +kernel
theorem dX11_greatest_37 : decode cX11_greatest 37 = .ok (.iload 5, 2) := by decide +kernel
theorem dX11_greatest_39 : decode cX11_greatest 39 = .ok (.iaload, 1) := by decide +kernel
theorem dX11_greatest_40 : decode cX11_greatest 40 = .ok (.bipush (-4), 2) := by decide +kernel
theorem dX11_greatest_42 : decode cX11_greatest 42 = .ok (.if_icmp .eq 7, 3) := by decide +kernel
theorem dX11_greatest_45 : decode cX11_greatest 45 = .ok (.iconst 1, 1) := by decide +kernel
theorem dX11_greatest_46 : decode cX11_greatest 46 = .ok (.goto 4, 3) := by decide +kernel
theorem dX11_greatest_49 : decode cX11_greatest 49 = .ok (.iconst 0, 1) := by decide +kernel
theorem dX11_greatest_50 : decode cX11_greatest 50 = .ok (.istore_n 3, 1) := by decide +kernel
theorem dX11_greatest_51 : decode cX11_greatest 51 = .ok (.iload 4, 2) := by decide +kernel
theorem dX11_greatest_53 : decode cX11_greatest 53 = .ok (.ifCond .eq 19, 3) := by decide +kernel
theorem dX11_greatest_56 : decode cX11_greatest 56 = .ok (.aload_n 0, 1) := by decide +kernel
theorem dX11_greatest_57 : decode cX11_greatest 57 = .ok (.getfield 46, 3) := by decide +kernel
theorem dX11_greatest_60 : decode cX11_greatest 60 = .ok (.iload 5, 2) := by decide +kernel
theorem dX11_greatest_62 : decode cX11_greatest 62 = .ok (.iaload, 1) := by decide +kernel
theorem dX11_greatest_63 : decode cX11_greatest 63 = .ok (.bipush (-5), 2) := by decide +kernel
theorem dX11_greatest_65 : decode cX11_greatest 65 = .ok (.if_icmp .eq 7, 3) := by decide +kernel
theorem dX11_greatest_68 : decode cX11_greatest 68 = .ok (.iconst 1, 1) := by decide +kernel
theorem dX11_greatest_69 : decode cX11_greatest 69 = .ok (.goto 4, 3) := by decide +kernel
theorem dX11_greatest_72 : decode cX11_greatest 72 = .ok (.iconst 0, 1) := by decide +kernel
theorem dX11_greatest_73 : decode cX11_greatest 73 = .ok (.istore 4, 2) := by decide +kernel
theorem dX11_greatest_75 : decode cX11_greatest 75 = .ok (.aload_n 0, 1) := by decide +kernel
theorem dX11_greatest_76 : decode cX11_greatest 76 = .ok (.getfield 46, 3) := by decide +kernel
theorem dX11_greatest_79 : decode cX11_greatest 79 = .ok (.iload 5, 2) := by decide +kernel
theorem dX11_greatest_81 : decode cX11_greatest 81 = .ok (.iaload, 1) := by decide +kernel
theorem dX11_greatest_82 : decode cX11_greatest 82 = .ok (.iload_n 2, 1) := by decide +kernel
theorem dX11_greatest_83 : decode cX11_greatest 83 = .ok (.if_icmp .le 13, 3) := by decide +kernel
theorem dX11_greatest_86 : decode cX11_greatest 86 = .ok (.aload_n 0, 1) := by decide +kernel
theorem dX11_greatest_87 : decode cX11_greatest 87 = .ok (.getfield 46, 3) := by decide +kernel
theorem dX11_greatest_90 : decode cX11_greatest 90 = .ok (.iload 5, 2) := by decide +kernel
theorem dX11_greatest_92 : decode cX11_greatest 92 = .ok (.iaload, 1) := by decide +kernel
theorem dX11_greatest_93 : decode cX11_greatest 93 = .ok (.goto 4, 3) := by decide +kernel
theorem dX11_greatest_96 : decode cX11_greatest 96 = .ok (.iload_n 2, 1) := by decide +kernel
theorem dX11_greatest_97 : decode cX11_greatest 97 = .ok (.istore_n 2, 1) := by decide +kernel
theorem dX11_greatest_98 : decode cX11_greatest 98 = .ok (.iinc 5 1, 3) := by decide +kernel
theorem dX11_greatest_101 : decode cX11_greatest 101 = .ok (.goto (-91), 3) := by decide +kernel
theorem dX11_greatest_104 : decode cX11_greatest 104 = .ok (.iload_n 3, 1) := by decide +kernel
theorem dX11_greatest_105 : decode cX11_greatest 105 = .ok (.ifCond .ne 8, 3) := by decide +kernel
theorem dX11_greatest_108 : decode cX11_greatest 108 = .ok (.bipush (-4), 2) := by decide +kernel
theorem dX11_greatest_110 : decode cX11_greatest 110 = .ok (.goto 14, 3) := by decide +kernel
theorem dX11_greatest_113 : decode cX11_greatest 113 = .ok (.iload 4, 2) := by decide +kernel
theorem dX11_greatest_115 : decode cX11_greatest 115 = .ok (.ifCond .eq 7, 3) := by decide +kernel
theorem dX11_greatest_118 : decode cX11_greatest 118 = .ok (.iload_n 2, 1) := by decide +kernel
theorem dX11_greatest_119 : decode cX11_greatest 119 = .ok (.goto 5, 3) := by decide +kernel
theorem dX11_greatest_122 : decode cX11_greatest 122 = .ok (.bipush (-5), 2) := by decide +kernel
theorem dX11_greatest_124 : decode cX11_greatest 124 = .ok (.ireturn, 1) := by decide +kernel
theorem dX11_own_0 : decode cX11_own 0 = .ok (.aload_n 0, 1) := by decide +kernel
theorem dX11_own_1 : decode cX11_own 1 = .ok (.aload_n 0, 1) := by decide +kernel
theorem dX11_own_2 : decode cX11_own 2 = .ok (.getfield 34, 3) := by decide +kernel
theorem dX11_own_5 : decode cX11_own 5 = .ok (.iload_n 1, 1) := by decide +kernel
theorem dX11_own_6 : decode cX11_own 6 = .ok (.iaload, 1) := by decide +kernel
theorem dX11_own_7 : decode cX11_own 7 = .ok (.invokevirtual 146, 3) := by decide +kernel
theorem dX11_own_10 : decode cX11_own 10 = .ok (.istore_n 2, 1) := by decide +kernel
theorem dX11_own_11 : decode cX11_own 11 = .ok (.aload_n 0, 1) := by decide +kernel
theorem dX11_own_12 : decode cX11_own 12 = .ok (.aload_n 0, 1) := by decide +kernel
theorem dX11_own_13 : decode cX11_own 13 = .ok (.getfield 37, 3) := by decide +kernel
theorem dX11_own_16 : decode cX11_own 16 = .ok (.iload_n 1, 1) := by decide +kernel
theorem dX11_own_17 : decode cX11_own 17 = .ok (.iaload, 1) := by decide +kernel
theorem dX11_own_18 : decode cX11_own 18 = .ok (.aload_n 0, 1) := by decide +kernel
theorem dX11_own_19 : decode cX11_own 19 = .ok (.getfield 43, 3) := by decide +kernel
theorem dX11_own_22 : decode cX11_own 22 = .ok (.iload_n 1, 1) := by decide +kernel
theorem dX11_own_23 : decode cX11_own 23 = .ok (.iaload, 1) := by decide +kernel
theorem dX11_own_24 : decode cX11_own 24 = .ok (.iconst (-1), 1) := by decide +kernel
theorem dX11_own_25 : decode cX11_own 25 = .ok (.ixor, 1) := by decide +kernel
theorem dX11_own_26 : decode cX11_own 26 = .ok (.iand, 1) := by decide +kernel
theorem dX11_own_27 : decode cX11_own 27 = .ok (.invokevirtual 146, 3) := by decide +kernel
theorem dX11_own_30 : decode cX11_own 30 = .ok (.istore_n 3, 1) := by decide +kernel
theorem dX11_own_31 : decode cX11_own 31 = .ok (.iload_n 2, 1) := by decide +kernel
theorem dX11_own_32 : decode cX11_own 32 = .ok (.bipush (-4), 2) := by decide +kernel
theorem dX11_own_34 : decode cX11_own 34 = .ok (.if_icmp .eq 9, 3) := by decide +kernel
theorem dX11_own_37 : decode cX11_own 37 = .ok (.iload_n 3, 1) := by decide +kernel
theorem dX11_own_38 : decode cX11_own 38 = .ok (.bipush (-4), 2) := by decide +kernel
theorem dX11_own_40 : decode cX11_own 40 = .ok (.if_icmp .ne 6, 3) := by decide +kernel
theorem dX11_own_43 : decode cX11_own 43 = .ok (.bipush (-4), 2) := by decide +kernel
theorem dX11_own_45 : decode cX11_own 45 = .ok (.ireturn, 1) := by decide +kernel
theorem dX11_own_46 : decode cX11_own 46 = .ok (.iload_n 2, 1) := by decide +kernel
theorem dX11_own_47 : decode cX11_own 47 = .ok (.bipush (-5), 2) := by decide +kernel
theorem dX11_own_49 : decode cX11_own 49 = .ok (.if_icmp .eq 9, 3) := by decide +kernel
theorem dX11_own_52 : decode cX11_own 52 = .ok (.iload_n 3, 1) := by decide +kernel
theorem dX11_own_53 : decode cX11_own 53 = .ok (.bipush (-5), 2) := by decide +kernel
theorem dX11_own_55 : decode cX11_own 55 = .ok (.if_icmp .ne 6, 3) := by decide +kernel
theorem dX11_own_58 : decode cX11_own 58 = .ok (.bipush (-5), 2) := by decide +kernel
theorem dX11_own_60 : decode cX11_own 60 = .ok (.ireturn, 1) := by decide +kernel
theorem dX11_own_61 : decode cX11_own 61 = .ok (.aload_n 0, 1) := by decide +kernel
theorem dX11_own_62 : decode cX11_own 62 = .ok (.getfield 7, 3) := by decide +kernel
theorem dX11_own_65 : decode cX11_own 65 = .ok (.iload_n 1, 1) := by decide +kernel
theorem dX11_own_66 : decode cX11_own 66 = .ok (.iaload, 1) := by decide +kernel
theorem dX11_own_67 : decode cX11_own 67 = .ok (.iload_n 2, 1) := by decide +kernel
theorem dX11_own_68 : decode cX11_own 68 = .ok (.iadd, 1) := by decide +kernel
theorem dX11_own_69 : decode cX11_own 69 = .ok (.iload_n 3, 1) := by decide +kernel
theorem dX11_own_70 : decode cX11_own 70 = .ok (.if_icmp .le 14, 3) := by decide +kernel
theorem dX11_own_73 : decode cX11_own 73 = .ok (.aload_n 0, 1) := by decide +kernel
theorem dX11_own_74 : decode cX11_own 74 = .ok (.getfield 7, 3) := by decide +kernel
theorem dX11_own_77 : decode cX11_own 77 = .ok (.iload_n 1, 1) := by decide +kernel
theorem dX11_own_78 : decode cX11_own 78 = .ok (.iaload, 1) := by decide +kernel
theorem dX11_own_79 : decode cX11_own 79 = .ok (.iload_n 2, 1) := by decide +kernel
theorem dX11_own_80 : decode cX11_own 80 = .ok (.iadd, 1) := by decide +kernel
theorem dX11_own_81 : decode cX11_own 81 = .ok (.goto 4, 3) := by decide +kernel
theorem dX11_own_84 : decode cX11_own 84 = .ok (.iload_n 3, 1) := by decide +kernel
theorem dX11_own_85 : decode cX11_own 85 = .ok (.ireturn, 1) := by decide +kernel
theorem dX11_reckoned_0 : decode cX11_reckoned 0 = .ok (.aload_n 0, 1) := by decide +kernel
theorem dX11_reckoned_1 : decode cX11_reckoned 1 = .ok (.getfield 43, 3) := by decide +kernel
theorem dX11_reckoned_4 : decode cX11_reckoned 4 = .ok (.iload_n 1, 1) := by decide +kernel
theorem dX11_reckoned_5 : decode cX11_reckoned 5 = .ok (.iaload, 1) := by decide +kernel
theorem dX11_reckoned_6 : decode cX11_reckoned 6 = .ok (.istore_n 2, 1) := by decide +kernel
theorem dX11_reckoned_7 : decode cX11_reckoned 7 = .ok (.aload_n 0, 1) := by decide +kernel
theorem dX11_reckoned_8 : decode cX11_reckoned 8 = .ok (.iload_n 1, 1) := by decide +kernel
theorem dX11_reckoned_9 : decode cX11_reckoned 9 = .ok (.invokevirtual 136, 3) := by decide +kernel
theorem dX11_reckoned_12 : decode cX11_reckoned 12 = .ok (.ifCond .eq 145, 3) := by decide +kernel
theorem dX11_reckoned_15 : decode cX11_reckoned 15 = .ok (.iconst 0, 1) := by decide +kernel
theorem dX11_reckoned_16 : decode cX11_reckoned 16 = .ok (.istore_n 3, 1) := by decide +kernel
theorem dX11_reckoned_17 : decode cX11_reckoned 17 = .ok (.iconst 0, 1) := by decide +kernel
theorem dX11_reckoned_18 : decode cX11_reckoned 18 = .ok (.istore 4, 2) := by decide +kernel
theorem dX11_reckoned_20 : decode cX11_reckoned 20 = .ok (.iconst 1, 1) := by decide +kernel
theorem dX11_reckoned_21 : decode cX11_reckoned 21 = .ok (.istore 5, 2) := by decide +kernel
theorem dX11_reckoned_23 : decode cX11_reckoned 23 = .ok (.iconst 0, 1) := by decide +kernel
theorem dX11_reckoned_24 : decode cX11_reckoned 24 = .ok (.istore 6, 2) := by decide +kernel
theorem dX11_reckoned_26 : decode cX11_reckoned 26 = .ok (.iload 6, 2) := by decide +kernel
theorem dX11_reckoned_28 : decode cX11_reckoned 28 = .ok (.aload_n 0, 1) := by decide +kernel
theorem dX11_reckoned_29 : decode cX11_reckoned 29 = .ok (.getfield 91, 3) := by decide +kernel
theorem dX11_reckoned_32 : decode cX11_reckoned 32 = .ok (.if_icmp .ge 79, 3) := by decide +kernel
theorem dX11_reckoned_35 : decode cX11_reckoned 35 = .ok (.iload_n 2, 1) := by decide +kernel
theorem dX11_reckoned_36 : decode cX11_reckoned 36 = .ok (.iload 6, 2) := by decide +kernel
theorem dX11_reckoned_38 : decode cX11_reckoned 38 = .ok (.ishr, 1) := by decide +kernel
theorem dX11_reckoned_39 : decode cX11_reckoned 39 = .ok (.iconst 1, 1) := by decide +kernel
theorem dX11_reckoned_40 : decode cX11_reckoned 40 = .ok (.iand, 1) := by decide +kernel
theorem dX11_reckoned_41 : decode cX11_reckoned 41 = .ok (.iconst 1, 1) := by decide +kernel
theorem dX11_reckoned_42 : decode cX11_reckoned 42 = .ok (.if_icmp .ne 63, 3) := by decide +kernel
theorem dX11_reckoned_45 : decode cX11_reckoned 45 = .ok (.iload_n 3, 1) := by decide +kernel
theorem dX11_reckoned_46 : decode cX11_reckoned 46 = .ok (.aload_n 0, 1) := by decide +kernel
theorem dX11_reckoned_47 : decode cX11_reckoned 47 = .ok (.getfield 34, 3) := by decide +kernel
theorem dX11_reckoned_50 : decode cX11_reckoned 50 = .ok (.iload 6, 2) := by decide +kernel
theorem dX11_reckoned_52 : decode cX11_reckoned 52 = .ok (.iaload, 1) := by decide +kernel
theorem dX11_reckoned_53 : decode cX11_reckoned 53 = .ok (.aload_n 0, 1) := by decide +kernel
theorem dX11_reckoned_54 : decode cX11_reckoned 54 = .ok (.getfield 37, 3) := by decide +kernel
theorem dX11_reckoned_57 : decode cX11_reckoned 57 = .ok (.iload 6, 2) := by decide +kernel
theorem dX11_reckoned_59 : decode cX11_reckoned 59 = .ok (.iaload, 1) := by decide +kernel
theorem dX11_reckoned_60 : decode cX11_reckoned 60 = .ok (.ior, 1) := by decide +kernel
theorem dX11_reckoned_61 : decode cX11_reckoned 61 = .ok (.ior, 1) := by decide +kernel
theorem dX11_reckoned_62 : decode cX11_reckoned 62 = .ok (.istore_n 3, 1) := by decide +kernel
theorem dX11_reckoned_63 : decode cX11_reckoned 63 = .ok (.iload 4, 2) := by decide +kernel
theorem dX11_reckoned_65 : decode cX11_reckoned 65 = .ok (.aload_n 0, 1) := by decide +kernel
theorem dX11_reckoned_66 : decode cX11_reckoned 66 = .ok (.getfield 7, 3) := by decide +kernel
theorem dX11_reckoned_69 : decode cX11_reckoned 69 = .ok (.iload 6, 2) := by decide +kernel
theorem dX11_reckoned_71 : decode cX11_reckoned 71 = .ok (.iaload, 1) := by decide +kernel
theorem dX11_reckoned_72 : decode cX11_reckoned 72 = .ok (.aload_n 0, 1) := by decide +kernel
theorem dX11_reckoned_73 : decode cX11_reckoned 73 = .ok (.getfield 13, 3) := by decide +kernel
theorem dX11_reckoned_76 : decode cX11_reckoned 76 = .ok (.iload 6, 2) := by decide +kernel
theorem dX11_reckoned_78 : decode cX11_reckoned 78 = .ok (.iaload, 1) := by decide +kernel
theorem dX11_reckoned_79 : decode cX11_reckoned 79 = .ok (.imul, 1) := by decide +kernel
theorem dX11_reckoned_80 : decode cX11_reckoned 80 = .ok (.iadd, 1) := by decide +kernel
theorem dX11_reckoned_81 : decode cX11_reckoned 81 = .ok (.istore 4, 2) := by decide +kernel
theorem dX11_reckoned_83 : decode cX11_reckoned 83 = .ok (.iload 5, 2) := by decide +kernel
theorem dX11_reckoned_85 : decode cX11_reckoned 85 = .ok (.ifCond .eq 17, 3) := by decide +kernel
theorem dX11_reckoned_88 : decode cX11_reckoned 88 = .ok (.aload_n 0, 1) := by decide +kernel
theorem dX11_reckoned_89 : decode cX11_reckoned 89 = .ok (.getfield 13, 3) := by decide +kernel
theorem dX11_reckoned_92 : decode cX11_reckoned 92 = .ok (.iload 6, 2) := by decide +kernel
theorem dX11_reckoned_94 : decode cX11_reckoned 94 = .ok (.iaload, 1) := by decide +kernel
theorem dX11_reckoned_95 : decode cX11_reckoned 95 = .ok (.ifCond .le 7, 3) := by decide +kernel
theorem dX11_reckoned_98 : decode cX11_reckoned 98 = .ok (.iconst 1, 1) := by decide +kernel
theorem dX11_reckoned_99 : decode cX11_reckoned 99 = .ok (.goto 4, 3) := by decide +kernel
theorem dX11_reckoned_102 : decode cX11_reckoned 102 = .ok (.iconst 0, 1) := by decide +kernel
theorem dX11_reckoned_103 : decode cX11_reckoned 103 = .ok (.istore 5, 2) := by decide +kernel
theorem dX11_reckoned_105 : decode cX11_reckoned 105 = .ok (.iinc 6 1, 3) := by decide +kernel
theorem dX11_reckoned_108 : decode cX11_reckoned 108 = .ok (.goto (-82), 3) := by decide +kernel
theorem dX11_reckoned_111 : decode cX11_reckoned 111 = .ok (.aload_n 0, 1) := by decide +kernel
theorem dX11_reckoned_112 : decode cX11_reckoned 112 = .ok (.iload_n 3, 1) := by decide +kernel
theorem dX11_reckoned_113 : decode cX11_reckoned 113 = .ok (.iload_n 2, 1) := by decide +kernel
theorem dX11_reckoned_114 : decode cX11_reckoned 114 = .ok (.iconst (-1), 1) := by decide +kernel
theorem dX11_reckoned_115 : decode cX11_reckoned 115 = .ok (.ixor, 1) := by decide +kernel
theorem dX11_reckoned_116 : decode cX11_reckoned 116 = .ok (.iand, 1) := by decide +kernel
theorem dX11_reckoned_117 : decode cX11_reckoned 117 = .ok (.invokevirtual 146, 3) := by decide +kernel
theorem dX11_reckoned_120 : decode cX11_reckoned 120 = .ok (.istore 6, 2) := by decide +kernel
theorem dX11_reckoned_122 : decode cX11_reckoned 122 = .ok (.iload 6, 2) := by decide +kernel
theorem dX11_reckoned_124 : decode cX11_reckoned 124 = .ok (.bipush (-4), 2) := by decide +kernel
theorem dX11_reckoned_126 : decode cX11_reckoned 126 = .ok (.if_icmp .ne 8, 3) := by decide +kernel
theorem dX11_reckoned_129 : decode cX11_reckoned 129 = .ok (.bipush (-4), 2) := by decide +kernel
theorem dX11_reckoned_131 : decode cX11_reckoned 131 = .ok (.goto 25, 3) := by decide +kernel
theorem dX11_reckoned_134 : decode cX11_reckoned 134 = .ok (.iload 5, 2) := by decide +kernel
theorem dX11_reckoned_136 : decode cX11_reckoned 136 = .ok (.ifCond .eq 10, 3) := by decide +kernel
theorem dX11_reckoned_139 : decode cX11_reckoned 139 = .ok (.iload 6, 2) := by decide +kernel
theorem dX11_reckoned_141 : decode cX11_reckoned 141 = .ok (.bipush (-5), 2) := by decide +kernel
theorem dX11_reckoned_143 : decode cX11_reckoned 143 = .ok (.if_icmp .ne 8, 3) := by decide +kernel
theorem dX11_reckoned_146 : decode cX11_reckoned 146 = .ok (.bipush (-5), 2) := by decide +kernel
theorem dX11_reckoned_148 : decode cX11_reckoned 148 = .ok (.goto 8, 3) := by decide +kernel
theorem dX11_reckoned_151 : decode cX11_reckoned 151 = .ok (.iload 4, 2) := by decide +kernel
theorem dX11_reckoned_153 : decode cX11_reckoned 153 = .ok (.iload 6, 2) := by decide +kernel
theorem dX11_reckoned_155 : decode cX11_reckoned 155 = .ok (.iadd, 1) := by decide +kernel
theorem dX11_reckoned_156 : decode cX11_reckoned 156 = .ok (.ireturn, 1) := by decide +kernel
theorem dX11_reckoned_157 : decode cX11_reckoned 157 = .ok (.iconst 0, 1) := by decide +kernel
theorem dX11_reckoned_158 : decode cX11_reckoned 158 = .ok (.istore_n 3, 1) := by decide +kernel
theorem dX11_reckoned_159 : decode cX11_reckoned 159 = .ok (.iconst 1, 1) := by decide +kernel
theorem dX11_reckoned_160 : decode cX11_reckoned 160 = .ok (.istore 4, 2) := by decide +kernel
theorem dX11_reckoned_162 : decode cX11_reckoned 162 = .ok (.iconst 1, 1) := by decide +kernel
theorem dX11_reckoned_163 : decode cX11_reckoned 163 = .ok (.istore 5, 2) := by decide +kernel
theorem dX11_reckoned_165 : decode cX11_reckoned 165 = .ok (.iconst 0, 1) := by decide +kernel
theorem dX11_reckoned_166 : decode cX11_reckoned 166 = .ok (.istore 6, 2) := by decide +kernel
theorem dX11_reckoned_168 : decode cX11_reckoned 168 = .ok (.iload 6, 2) := by decide +kernel
theorem dX11_reckoned_170 : decode cX11_reckoned 170 = .ok (.aload_n 0, 1) := by decide +kernel
theorem dX11_reckoned_171 : decode cX11_reckoned 171 = .ok (.getfield 91, 3) := by decide +kernel
theorem dX11_reckoned_174 : decode cX11_reckoned 174 = .ok (.if_icmp .ge 78, 3) := by decide +kernel
theorem dX11_reckoned_177 : decode cX11_reckoned 177 = .ok (.iload_n 2, 1) := by decide +kernel
theorem dX11_reckoned_178 : decode cX11_reckoned 178 = .ok (.iload 6, 2) := by decide +kernel
theorem dX11_reckoned_180 : decode cX11_reckoned 180 = .ok (.ishr, 1) := by decide +kernel
theorem dX11_reckoned_181 : decode cX11_reckoned 181 = .ok (.iconst 1, 1) := by decide +kernel
theorem dX11_reckoned_182 : decode cX11_reckoned 182 = .ok (.iand, 1) := by decide +kernel
theorem dX11_reckoned_183 : decode cX11_reckoned 183 = .ok (.iconst 1, 1) := by decide +kernel
theorem dX11_reckoned_184 : decode cX11_reckoned 184 = .ok (.if_icmp .ne 62, 3) := by decide +kernel
theorem dX11_reckoned_187 : decode cX11_reckoned 187 = .ok (.aload_n 0, 1) := by decide +kernel
theorem dX11_reckoned_188 : decode cX11_reckoned 188 = .ok (.iload 6, 2) := by decide +kernel
theorem dX11_reckoned_190 : decode cX11_reckoned 190 = .ok (.invokevirtual 149, 3) := by decide +kernel
theorem dX11_reckoned_193 : decode cX11_reckoned 193 = .ok (.istore 7, 2) := by decide +kernel
theorem dX11_reckoned_195 : decode cX11_reckoned 195 = .ok (.iload 4, 2) := by decide +kernel
theorem dX11_reckoned_197 : decode cX11_reckoned 197 = .ok (.ifCond .eq 14, 3) := by decide +kernel
theorem dX11_reckoned_200 : decode cX11_reckoned 200 = .ok (.iload 7, 2) := by decide +kernel
theorem dX11_reckoned_202 : decode cX11_reckoned 202 = .ok (.bipush (-4), 2) := by decide +kernel
theorem dX11_reckoned_204 : decode cX11_reckoned 204 = .ok (.if_icmp .eq 7, 3) := by decide +kernel
theorem dX11_reckoned_207 : decode cX11_reckoned 207 = .ok (.iconst 1, 1) := by decide +kernel
theorem dX11_reckoned_208 : decode cX11_reckoned 208 = .ok (.goto 4, 3) := by decide +kernel
theorem dX11_reckoned_211 : decode cX11_reckoned 211 = .ok (.iconst 0, 1) := by decide +kernel
theorem dX11_reckoned_212 : decode cX11_reckoned 212 = .ok (.istore 4, 2) := by decide +kernel
theorem dX11_reckoned_214 : decode cX11_reckoned 214 = .ok (.iload 5, 2) := by decide +kernel
theorem dX11_reckoned_216 : decode cX11_reckoned 216 = .ok (.ifCond .eq 14, 3) := by decide +kernel
theorem dX11_reckoned_219 : decode cX11_reckoned 219 = .ok (.iload 7, 2) := by decide +kernel
theorem dX11_reckoned_221 : decode cX11_reckoned 221 = .ok (.bipush (-5), 2) := by decide +kernel
theorem dX11_reckoned_223 : decode cX11_reckoned 223 = .ok (.if_icmp .eq 7, 3) := by decide +kernel
theorem dX11_reckoned_226 : decode cX11_reckoned 226 = .ok (.iconst 1, 1) := by decide +kernel
theorem dX11_reckoned_227 : decode cX11_reckoned 227 = .ok (.goto 4, 3) := by decide +kernel
theorem dX11_reckoned_230 : decode cX11_reckoned 230 = .ok (.iconst 0, 1) := by decide +kernel
theorem dX11_reckoned_231 : decode cX11_reckoned 231 = .ok (.istore 5, 2) := by decide +kernel
theorem dX11_reckoned_233 : decode cX11_reckoned 233 = .ok (.iload 7, 2) := by decide +kernel
theorem dX11_reckoned_235 : decode cX11_reckoned 235 = .ok (.iload_n 3, 1) := by decide +kernel
theorem dX11_reckoned_236 : decode cX11_reckoned 236 = .ok (.if_icmp .le 8, 3) := by decide +kernel
theorem dX11_reckoned_239 : decode cX11_reckoned 239 = .ok (.iload 7, 2) := by decide +kernel
theorem dX11_reckoned_241 : decode cX11_reckoned 241 = .ok (.goto 4, 3) := by decide +kernel
theorem dX11_reckoned_244 : decode cX11_reckoned 244 = .ok (.iload_n 3, 1) := by decide +kernel
theorem dX11_reckoned_245 : decode cX11_reckoned 245 = .ok (.istore_n 3, 1) := by decide +kernel
theorem dX11_reckoned_246 : decode cX11_reckoned 246 = .ok (.iinc 6 1, 3) := by decide +kernel
theorem dX11_reckoned_249 : decode cX11_reckoned 249 = .ok (.goto (-81), 3) := by decide +kernel
theorem dX11_reckoned_252 : decode cX11_reckoned 252 = .ok (.iload 4, 2) := by decide +kernel
theorem dX11_reckoned_254 : decode cX11_reckoned 254 = .ok (.ifCond .ne 8, 3) := by decide +kernel
theorem dX11_reckoned_257 : decode cX11_reckoned 257 = .ok (.bipush (-4), 2) := by decide +kernel
theorem dX11_reckoned_259 : decode cX11_reckoned 259 = .ok (.goto 14, 3) := by decide +kernel
theorem dX11_reckoned_262 : decode cX11_reckoned 262 = .ok (.iload 5, 2) := by decide +kernel
theorem dX11_reckoned_264 : decode cX11_reckoned 264 = .ok (.ifCond .eq 7, 3) := by decide +kernel
theorem dX11_reckoned_267 : decode cX11_reckoned 267 = .ok (.iload_n 3, 1) := by decide +kernel
theorem dX11_reckoned_268 : decode cX11_reckoned 268 = .ok (.goto 5, 3) := by decide +kernel
theorem dX11_reckoned_271 : decode cX11_reckoned 271 = .ok (.bipush (-5), 2) := by decide +kernel
theorem dX11_reckoned_273 : decode cX11_reckoned 273 = .ok (.ireturn, 1) := by decide +kernel
theorem dX11_layDepths_0 : decode cX11_layDepths 0 = .ok (.aload_n 0, 1) := by decide +kernel
theorem dX11_layDepths_1 : decode cX11_layDepths 1 = .ok (.invokevirtual 133, 3) := by decide +kernel
theorem dX11_layDepths_4 : decode cX11_layDepths 4 = .ok (.iconst 0, 1) := by decide +kernel
theorem dX11_layDepths_5 : decode cX11_layDepths 5 = .ok (.istore_n 1, 1) := by decide +kernel
theorem dX11_layDepths_6 : decode cX11_layDepths 6 = .ok (.iload_n 1, 1) := by decide +kernel
theorem dX11_layDepths_7 : decode cX11_layDepths 7 = .ok (.bipush 20, 2) := by decide +kernel
theorem dX11_layDepths_9 : decode cX11_layDepths 9 = .ok (.if_icmp .ge 17, 3) := by decide +kernel
theorem dX11_layDepths_12 : decode cX11_layDepths 12 = .ok (.aload_n 0, 1) := by decide +kernel
theorem dX11_layDepths_13 : decode cX11_layDepths 13 = .ok (.getfield 46, 3) := by decide +kernel
theorem dX11_layDepths_16 : decode cX11_layDepths 16 = .ok (.iload_n 1, 1) := by decide +kernel
theorem dX11_layDepths_17 : decode cX11_layDepths 17 = .ok (.bipush (-4), 2) := by decide +kernel
theorem dX11_layDepths_19 : decode cX11_layDepths 19 = .ok (.iastore, 1) := by decide +kernel
theorem dX11_layDepths_20 : decode cX11_layDepths 20 = .ok (.iinc 1 1, 3) := by decide +kernel
theorem dX11_layDepths_23 : decode cX11_layDepths 23 = .ok (.goto (-17), 3) := by decide +kernel
theorem dX11_layDepths_26 : decode cX11_layDepths 26 = .ok (.iconst 0, 1) := by decide +kernel
theorem dX11_layDepths_27 : decode cX11_layDepths 27 = .ok (.istore_n 1, 1) := by decide +kernel
theorem dX11_layDepths_28 : decode cX11_layDepths 28 = .ok (.iload_n 1, 1) := by decide +kernel
theorem dX11_layDepths_29 : decode cX11_layDepths 29 = .ok (.aload_n 0, 1) := by decide +kernel
theorem dX11_layDepths_30 : decode cX11_layDepths 30 = .ok (.getfield 91, 3) := by decide +kernel
theorem dX11_layDepths_33 : decode cX11_layDepths 33 = .ok (.if_icmp .ge 56, 3) := by decide +kernel
theorem dX11_layDepths_36 : decode cX11_layDepths 36 = .ok (.iconst 0, 1) := by decide +kernel
theorem dX11_layDepths_37 : decode cX11_layDepths 37 = .ok (.istore_n 2, 1) := by decide +kernel
theorem dX11_layDepths_38 : decode cX11_layDepths 38 = .ok (.iload_n 2, 1) := by decide +kernel
theorem dX11_layDepths_39 : decode cX11_layDepths 39 = .ok (.aload_n 0, 1) := by decide +kernel
theorem dX11_layDepths_40 : decode cX11_layDepths 40 = .ok (.getfield 91, 3) := by decide +kernel
theorem dX11_layDepths_43 : decode cX11_layDepths 43 = .ok (.if_icmp .ge 40, 3) := by decide +kernel
theorem dX11_layDepths_46 : decode cX11_layDepths 46 = .ok (.aload_n 0, 1) := by decide +kernel
theorem dX11_layDepths_47 : decode cX11_layDepths 47 = .ok (.getfield 46, 3) := by decide +kernel
theorem dX11_layDepths_50 : decode cX11_layDepths 50 = .ok (.iload_n 2, 1) := by decide +kernel
theorem dX11_layDepths_51 : decode cX11_layDepths 51 = .ok (.aload_n 0, 1) := by decide +kernel
theorem dX11_layDepths_52 : decode cX11_layDepths 52 = .ok (.getfield 46, 3) := by decide +kernel
theorem dX11_layDepths_55 : decode cX11_layDepths 55 = .ok (.iload_n 2, 1) := by decide +kernel
theorem dX11_layDepths_56 : decode cX11_layDepths 56 = .ok (.iaload, 1) := by decide +kernel
theorem dX11_layDepths_57 : decode cX11_layDepths 57 = .ok (.bipush (-4), 2) := by decide +kernel
theorem dX11_layDepths_59 : decode cX11_layDepths 59 = .ok (.if_icmp .ne 11, 3) := by decide +kernel
theorem dX11_layDepths_62 : decode cX11_layDepths 62 = .ok (.aload_n 0, 1) := by decide +kernel
theorem dX11_layDepths_63 : decode cX11_layDepths 63 = .ok (.iload_n 2, 1) := by decide +kernel
theorem dX11_layDepths_64 : decode cX11_layDepths 64 = .ok (.invokevirtual 152, 3) := by decide +kernel
theorem dX11_layDepths_67 : decode cX11_layDepths 67 = .ok (.goto 9, 3) := by decide +kernel
theorem dX11_layDepths_70 : decode cX11_layDepths 70 = .ok (.aload_n 0, 1) := by decide +kernel
theorem dX11_layDepths_71 : decode cX11_layDepths 71 = .ok (.getfield 46, 3) := by decide +kernel
theorem dX11_layDepths_74 : decode cX11_layDepths 74 = .ok (.iload_n 2, 1) := by decide +kernel
theorem dX11_layDepths_75 : decode cX11_layDepths 75 = .ok (.iaload, 1) := by decide +kernel
theorem dX11_layDepths_76 : decode cX11_layDepths 76 = .ok (.iastore, 1) := by decide +kernel
theorem dX11_layDepths_77 : decode cX11_layDepths 77 = .ok (.iinc 2 1, 3) := by decide +kernel
theorem dX11_layDepths_80 : decode cX11_layDepths 80 = .ok (.goto (-42), 3) := by decide +kernel
theorem dX11_layDepths_83 : decode cX11_layDepths 83 = .ok (.iinc 1 1, 3) := by decide +kernel
theorem dX11_layDepths_86 : decode cX11_layDepths 86 = .ok (.goto (-58), 3) := by decide +kernel
theorem dX11_layDepths_89 : decode cX11_layDepths 89 = .ok (.return_, 1) := by decide +kernel
theorem dX11_depth_0 : decode cX11_depth 0 = .ok (.aload_n 0, 1) := by decide +kernel
theorem dX11_depth_1 : decode cX11_depth 1 = .ok (.iload_n 1, 1) := by decide +kernel
theorem dX11_depth_2 : decode cX11_depth 2 = .ok (.invokevirtual 103, 3) := by decide +kernel
theorem dX11_depth_5 : decode cX11_depth 5 = .ok (.ifCond .ne 5, 3) := by decide +kernel
theorem dX11_depth_8 : decode cX11_depth 8 = .ok (.iconst (-1), 1) := by decide +kernel
theorem dX11_depth_9 : decode cX11_depth 9 = .ok (.ireturn, 1) := by decide +kernel
theorem dX11_depth_10 : decode cX11_depth 10 = .ok (.aload_n 0, 1) := by decide +kernel
theorem dX11_depth_11 : decode cX11_depth 11 = .ok (.invokevirtual 155, 3) := by decide +kernel
theorem dX11_depth_14 : decode cX11_depth 14 = .ok (.aload_n 0, 1) := by decide +kernel
theorem dX11_depth_15 : decode cX11_depth 15 = .ok (.getfield 46, 3) := by decide +kernel
theorem dX11_depth_18 : decode cX11_depth 18 = .ok (.iload_n 1, 1) := by decide +kernel
theorem dX11_depth_19 : decode cX11_depth 19 = .ok (.iaload, 1) := by decide +kernel
theorem dX11_depth_20 : decode cX11_depth 20 = .ok (.ireturn, 1) := by decide +kernel
theorem dX11_reachesRing_0 : decode cX11_reachesRing 0 = .ok (.aload_n 0, 1) := by decide +kernel
theorem dX11_reachesRing_1 : decode cX11_reachesRing 1 = .ok (.iload_n 1, 1) := by decide +kernel
theorem dX11_reachesRing_2 : decode cX11_reachesRing 2 = .ok (.invokevirtual 136, 3) := by decide +kernel
theorem dX11_reachesRing_5 : decode cX11_reachesRing 5 = .ok (.istore_n 2, 1) := by decide +kernel
theorem dX11_reachesRing_6 : decode cX11_reachesRing 6 = .ok (.iconst 0, 1) := by decide +kernel
theorem dX11_reachesRing_7 : decode cX11_reachesRing 7 = .ok (.istore_n 3, 1) := by decide +kernel
theorem dX11_reachesRing_8 : decode cX11_reachesRing 8 = .ok (.iload_n 3, 1) := by decide +kernel
theorem dX11_reachesRing_9 : decode cX11_reachesRing 9 = .ok (.aload_n 0, 1) := by decide +kernel
theorem dX11_reachesRing_10 : decode cX11_reachesRing 10 = .ok (.getfield 91, 3) := by decide +kernel
theorem dX11_reachesRing_13 : decode cX11_reachesRing 13 = .ok (.if_icmp .ge 41, 3) := by decide +kernel
theorem dX11_reachesRing_16 : decode cX11_reachesRing 16 = .ok (.iload_n 2, 1) := by decide +kernel
theorem dX11_reachesRing_17 : decode cX11_reachesRing 17 = .ok (.ifCond .ne 25, 3) := by decide +kernel
theorem dX11_reachesRing_20 : decode cX11_reachesRing 20 = .ok (.aload_n 0, 1) := by decide +kernel
theorem dX11_reachesRing_21 : decode cX11_reachesRing 21 = .ok (.getfield 40, 3) := by decide +kernel
theorem dX11_reachesRing_24 : decode cX11_reachesRing 24 = .ok (.iload_n 1, 1) := by decide +kernel
theorem dX11_reachesRing_25 : decode cX11_reachesRing 25 = .ok (.iaload, 1) := by decide +kernel
theorem dX11_reachesRing_26 : decode cX11_reachesRing 26 = .ok (.iload_n 3, 1) := by decide +kernel
theorem dX11_reachesRing_27 : decode cX11_reachesRing 27 = .ok (.ishr, 1) := by decide +kernel
theorem dX11_reachesRing_28 : decode cX11_reachesRing 28 = .ok (.iconst 1, 1) := by decide +kernel
theorem dX11_reachesRing_29 : decode cX11_reachesRing 29 = .ok (.iand, 1) := by decide +kernel
theorem dX11_reachesRing_30 : decode cX11_reachesRing 30 = .ok (.iconst 1, 1) := by decide +kernel
theorem dX11_reachesRing_31 : decode cX11_reachesRing 31 = .ok (.if_icmp .ne 15, 3) := by decide +kernel
theorem dX11_reachesRing_34 : decode cX11_reachesRing 34 = .ok (.aload_n 0, 1) := by decide +kernel
theorem dX11_reachesRing_35 : decode cX11_reachesRing 35 = .ok (.iload_n 3, 1) := by decide +kernel
theorem dX11_reachesRing_36 : decode cX11_reachesRing 36 = .ok (.invokevirtual 136, 3) := by decide +kernel
theorem dX11_reachesRing_39 : decode cX11_reachesRing 39 = .ok (.ifCond .eq 7, 3) := by decide +kernel
theorem dX11_reachesRing_42 : decode cX11_reachesRing 42 = .ok (.iconst 1, 1) := by decide +kernel
theorem dX11_reachesRing_43 : decode cX11_reachesRing 43 = .ok (.goto 4, 3) := by decide +kernel
theorem dX11_reachesRing_46 : decode cX11_reachesRing 46 = .ok (.iconst 0, 1) := by decide +kernel
theorem dX11_reachesRing_47 : decode cX11_reachesRing 47 = .ok (.istore_n 2, 1) := by decide +kernel
theorem dX11_reachesRing_48 : decode cX11_reachesRing 48 = .ok (.iinc 3 1, 3) := by decide +kernel
theorem dX11_reachesRing_51 : decode cX11_reachesRing 51 = .ok (.goto (-43), 3) := by decide +kernel
theorem dX11_reachesRing_54 : decode cX11_reachesRing 54 = .ok (.iload_n 2, 1) := by decide +kernel
theorem dX11_reachesRing_55 : decode cX11_reachesRing 55 = .ok (.ireturn, 1) := by decide +kernel
theorem dX11_nextOf_0 : decode cX11_nextOf 0 = .ok (.aload_n 0, 1) := by decide +kernel
theorem dX11_nextOf_1 : decode cX11_nextOf 1 = .ok (.iload_n 1, 1) := by decide +kernel
theorem dX11_nextOf_2 : decode cX11_nextOf 2 = .ok (.invokevirtual 149, 3) := by decide +kernel
theorem dX11_nextOf_5 : decode cX11_nextOf 5 = .ok (.aload_n 0, 1) := by decide +kernel
theorem dX11_nextOf_6 : decode cX11_nextOf 6 = .ok (.getfield 46, 3) := by decide +kernel
theorem dX11_nextOf_9 : decode cX11_nextOf 9 = .ok (.iload_n 1, 1) := by decide +kernel
theorem dX11_nextOf_10 : decode cX11_nextOf 10 = .ok (.iaload, 1) := by decide +kernel
theorem dX11_nextOf_11 : decode cX11_nextOf 11 = .ok (.if_icmp .ge 49, 3) := by decide +kernel
theorem dX11_nextOf_14 : decode cX11_nextOf 14 = .ok (.iconst 0, 1) := by decide +kernel
theorem dX11_nextOf_15 : decode cX11_nextOf 15 = .ok (.istore_n 2, 1) := by decide +kernel
theorem dX11_nextOf_16 : decode cX11_nextOf 16 = .ok (.iload_n 2, 1) := by decide +kernel
theorem dX11_nextOf_17 : decode cX11_nextOf 17 = .ok (.aload_n 0, 1) := by decide +kernel
theorem dX11_nextOf_18 : decode cX11_nextOf 18 = .ok (.getfield 91, 3) := by decide +kernel
theorem dX11_nextOf_21 : decode cX11_nextOf 21 = .ok (.if_icmp .ge 39, 3) := by decide +kernel
theorem dX11_nextOf_24 : decode cX11_nextOf 24 = .ok (.aload_n 0, 1) := by decide +kernel
theorem dX11_nextOf_25 : decode cX11_nextOf 25 = .ok (.getfield 43, 3) := by decide +kernel
theorem dX11_nextOf_28 : decode cX11_nextOf 28 = .ok (.iload_n 1, 1) := by decide +kernel
theorem dX11_nextOf_29 : decode cX11_nextOf 29 = .ok (.iaload, 1) := by decide +kernel
theorem dX11_nextOf_30 : decode cX11_nextOf 30 = .ok (.iload_n 2, 1) := by decide +kernel
theorem dX11_nextOf_31 : decode cX11_nextOf 31 = .ok (.ishr, 1) := by decide +kernel
theorem dX11_nextOf_32 : decode cX11_nextOf 32 = .ok (.iconst 1, 1) := by decide +kernel
theorem dX11_nextOf_33 : decode cX11_nextOf 33 = .ok (.iand, 1) := by decide +kernel
theorem dX11_nextOf_34 : decode cX11_nextOf 34 = .ok (.iconst 1, 1) := by decide +kernel
theorem dX11_nextOf_35 : decode cX11_nextOf 35 = .ok (.if_icmp .ne 19, 3) := by decide +kernel
theorem dX11_nextOf_38 : decode cX11_nextOf 38 = .ok (.aload_n 0, 1) := by decide +kernel
theorem dX11_nextOf_39 : decode cX11_nextOf 39 = .ok (.iload_n 2, 1) := by decide +kernel
theorem dX11_nextOf_40 : decode cX11_nextOf 40 = .ok (.invokevirtual 149, 3) := by decide +kernel
theorem dX11_nextOf_43 : decode cX11_nextOf 43 = .ok (.aload_n 0, 1) := by decide +kernel
theorem dX11_nextOf_44 : decode cX11_nextOf 44 = .ok (.getfield 46, 3) := by decide +kernel
theorem dX11_nextOf_47 : decode cX11_nextOf 47 = .ok (.iload_n 1, 1) := by decide +kernel
theorem dX11_nextOf_48 : decode cX11_nextOf 48 = .ok (.iaload, 1) := by decide +kernel
theorem dX11_nextOf_49 : decode cX11_nextOf 49 = .ok (.if_icmp .ne 5, 3) := by decide +kernel
theorem dX11_nextOf_52 : decode cX11_nextOf 52 = .ok (.iload_n 2, 1) := by decide +kernel
theorem dX11_nextOf_53 : decode cX11_nextOf 53 = .ok (.ireturn, 1) := by decide +kernel
theorem dX11_nextOf_54 : decode cX11_nextOf 54 = .ok (.iinc 2 1, 3) := by decide +kernel
theorem dX11_nextOf_57 : decode cX11_nextOf 57 = .ok (.goto (-41), 3) := by decide +kernel
theorem dX11_nextOf_60 : decode cX11_nextOf 60 = .ok (.iconst 0, 1) := by decide +kernel
theorem dX11_nextOf_61 : decode cX11_nextOf 61 = .ok (.istore_n 2, 1) := by decide +kernel
theorem dX11_nextOf_62 : decode cX11_nextOf 62 = .ok (.iload_n 2, 1) := by decide +kernel
theorem dX11_nextOf_63 : decode cX11_nextOf 63 = .ok (.aload_n 0, 1) := by decide +kernel
theorem dX11_nextOf_64 : decode cX11_nextOf 64 = .ok (.getfield 91, 3) := by decide +kernel
theorem dX11_nextOf_67 : decode cX11_nextOf 67 = .ok (.if_icmp .ge 47, 3) := by decide +kernel
theorem dX11_nextOf_70 : decode cX11_nextOf 70 = .ok (.aload_n 0, 1) := by decide +kernel
theorem dX11_nextOf_71 : decode cX11_nextOf 71 = .ok (.getfield 34, 3) := by decide +kernel
theorem dX11_nextOf_74 : decode cX11_nextOf 74 = .ok (.iload_n 1, 1) := by decide +kernel
theorem dX11_nextOf_75 : decode cX11_nextOf 75 = .ok (.iaload, 1) := by decide +kernel
theorem dX11_nextOf_76 : decode cX11_nextOf 76 = .ok (.iload_n 2, 1) := by decide +kernel
theorem dX11_nextOf_77 : decode cX11_nextOf 77 = .ok (.ishr, 1) := by decide +kernel
theorem dX11_nextOf_78 : decode cX11_nextOf 78 = .ok (.iconst 1, 1) := by decide +kernel
theorem dX11_nextOf_79 : decode cX11_nextOf 79 = .ok (.iand, 1) := by decide +kernel
theorem dX11_nextOf_80 : decode cX11_nextOf 80 = .ok (.iconst 1, 1) := by decide +kernel
theorem dX11_nextOf_81 : decode cX11_nextOf 81 = .ok (.if_icmp .ne 27, 3) := by decide +kernel
theorem dX11_nextOf_84 : decode cX11_nextOf 84 = .ok (.aload_n 0, 1) := by decide +kernel
theorem dX11_nextOf_85 : decode cX11_nextOf 85 = .ok (.getfield 7, 3) := by decide +kernel
theorem dX11_nextOf_88 : decode cX11_nextOf 88 = .ok (.iload_n 1, 1) := by decide +kernel
theorem dX11_nextOf_89 : decode cX11_nextOf 89 = .ok (.iaload, 1) := by decide +kernel
theorem dX11_nextOf_90 : decode cX11_nextOf 90 = .ok (.aload_n 0, 1) := by decide +kernel
theorem dX11_nextOf_91 : decode cX11_nextOf 91 = .ok (.getfield 46, 3) := by decide +kernel
theorem dX11_nextOf_94 : decode cX11_nextOf 94 = .ok (.iload_n 2, 1) := by decide +kernel
theorem dX11_nextOf_95 : decode cX11_nextOf 95 = .ok (.iaload, 1) := by decide +kernel
theorem dX11_nextOf_96 : decode cX11_nextOf 96 = .ok (.iadd, 1) := by decide +kernel
theorem dX11_nextOf_97 : decode cX11_nextOf 97 = .ok (.aload_n 0, 1) := by decide +kernel
theorem dX11_nextOf_98 : decode cX11_nextOf 98 = .ok (.getfield 46, 3) := by decide +kernel
theorem dX11_nextOf_101 : decode cX11_nextOf 101 = .ok (.iload_n 1, 1) := by decide +kernel
theorem dX11_nextOf_102 : decode cX11_nextOf 102 = .ok (.iaload, 1) := by decide +kernel
theorem dX11_nextOf_103 : decode cX11_nextOf 103 = .ok (.if_icmp .ne 5, 3) := by decide +kernel
theorem dX11_nextOf_106 : decode cX11_nextOf 106 = .ok (.iload_n 2, 1) := by decide +kernel
theorem dX11_nextOf_107 : decode cX11_nextOf 107 = .ok (.ireturn, 1) := by decide +kernel
theorem dX11_nextOf_108 : decode cX11_nextOf 108 = .ok (.iinc 2 1, 3) := by decide +kernel
theorem dX11_nextOf_111 : decode cX11_nextOf 111 = .ok (.goto (-49), 3) := by decide +kernel
theorem dX11_nextOf_114 : decode cX11_nextOf 114 = .ok (.iconst 0, 1) := by decide +kernel
theorem dX11_nextOf_115 : decode cX11_nextOf 115 = .ok (.istore_n 2, 1) := by decide +kernel
theorem dX11_nextOf_116 : decode cX11_nextOf 116 = .ok (.iload_n 2, 1) := by decide +kernel
theorem dX11_nextOf_117 : decode cX11_nextOf 117 = .ok (.aload_n 0, 1) := by decide +kernel
theorem dX11_nextOf_118 : decode cX11_nextOf 118 = .ok (.getfield 91, 3) := by decide +kernel
theorem dX11_nextOf_121 : decode cX11_nextOf 121 = .ok (.if_icmp .ge 49, 3) := by decide +kernel
theorem dX11_nextOf_124 : decode cX11_nextOf 124 = .ok (.aload_n 0, 1) := by decide +kernel
theorem dX11_nextOf_125 : decode cX11_nextOf 125 = .ok (.getfield 37, 3) := by decide +kernel
theorem dX11_nextOf_128 : decode cX11_nextOf 128 = .ok (.iload_n 1, 1) := by decide +kernel
theorem dX11_nextOf_129 : decode cX11_nextOf 129 = .ok (.iaload, 1) := by decide +kernel
theorem dX11_nextOf_130 : decode cX11_nextOf 130 = .ok (.aload_n 0, 1) := by decide +kernel
theorem dX11_nextOf_131 : decode cX11_nextOf 131 = .ok (.getfield 43, 3) := by decide +kernel
theorem dX11_nextOf_134 : decode cX11_nextOf 134 = .ok (.iload_n 1, 1) := by decide +kernel
theorem dX11_nextOf_135 : decode cX11_nextOf 135 = .ok (.iaload, 1) := by decide +kernel
theorem dX11_nextOf_136 : decode cX11_nextOf 136 = .ok (.iconst (-1), 1) := by decide +kernel
theorem dX11_nextOf_137 : decode cX11_nextOf 137 = .ok (.ixor, 1) := by decide +kernel
theorem dX11_nextOf_138 : decode cX11_nextOf 138 = .ok (.iand, 1) := by decide +kernel
theorem dX11_nextOf_139 : decode cX11_nextOf 139 = .ok (.iload_n 2, 1) := by decide +kernel
theorem dX11_nextOf_140 : decode cX11_nextOf 140 = .ok (.ishr, 1) := by decide +kernel
theorem dX11_nextOf_141 : decode cX11_nextOf 141 = .ok (.iconst 1, 1) := by decide +kernel
theorem dX11_nextOf_142 : decode cX11_nextOf 142 = .ok (.iand, 1) := by decide +kernel
theorem dX11_nextOf_143 : decode cX11_nextOf 143 = .ok (.iconst 1, 1) := by decide +kernel
theorem dX11_nextOf_144 : decode cX11_nextOf 144 = .ok (.if_icmp .ne 20, 3) := by decide +kernel
theorem dX11_nextOf_147 : decode cX11_nextOf 147 = .ok (.aload_n 0, 1) := by decide +kernel
theorem dX11_nextOf_148 : decode cX11_nextOf 148 = .ok (.getfield 46, 3) := by decide +kernel
theorem dX11_nextOf_151 : decode cX11_nextOf 151 = .ok (.iload_n 2, 1) := by decide +kernel
theorem dX11_nextOf_152 : decode cX11_nextOf 152 = .ok (.iaload, 1) := by decide +kernel
theorem dX11_nextOf_153 : decode cX11_nextOf 153 = .ok (.aload_n 0, 1) := by decide +kernel
theorem dX11_nextOf_154 : decode cX11_nextOf 154 = .ok (.getfield 46, 3) := by decide +kernel
theorem dX11_nextOf_157 : decode cX11_nextOf 157 = .ok (.iload_n 1, 1) := by decide +kernel
theorem dX11_nextOf_158 : decode cX11_nextOf 158 = .ok (.iaload, 1) := by decide +kernel
theorem dX11_nextOf_159 : decode cX11_nextOf 159 = .ok (.if_icmp .ne 5, 3) := by decide +kernel
theorem dX11_nextOf_162 : decode cX11_nextOf 162 = .ok (.iload_n 2, 1) := by decide +kernel
theorem dX11_nextOf_163 : decode cX11_nextOf 163 = .ok (.ireturn, 1) := by decide +kernel
theorem dX11_nextOf_164 : decode cX11_nextOf 164 = .ok (.iinc 2 1, 3) := by decide +kernel
theorem dX11_nextOf_167 : decode cX11_nextOf 167 = .ok (.goto (-51), 3) := by decide +kernel
theorem dX11_nextOf_170 : decode cX11_nextOf 170 = .ok (.bipush (-4), 2) := by decide +kernel
theorem dX11_nextOf_172 : decode cX11_nextOf 172 = .ok (.ireturn, 1) := by decide +kernel
theorem dX11_way_0 : decode cX11_way 0 = .ok (.aload_n 0, 1) := by decide +kernel
theorem dX11_way_1 : decode cX11_way 1 = .ok (.iload_n 1, 1) := by decide +kernel
theorem dX11_way_2 : decode cX11_way 2 = .ok (.invokevirtual 103, 3) := by decide +kernel
theorem dX11_way_5 : decode cX11_way 5 = .ok (.ifCond .eq 7, 3) := by decide +kernel
theorem dX11_way_8 : decode cX11_way 8 = .ok (.iload_n 2, 1) := by decide +kernel
theorem dX11_way_9 : decode cX11_way 9 = .ok (.ifCond .ge 5, 3) := by decide +kernel
theorem dX11_way_12 : decode cX11_way 12 = .ok (.iconst (-1), 1) := by decide +kernel
theorem dX11_way_13 : decode cX11_way 13 = .ok (.ireturn, 1) := by decide +kernel
theorem dX11_way_14 : decode cX11_way 14 = .ok (.aload_n 0, 1) := by decide +kernel
theorem dX11_way_15 : decode cX11_way 15 = .ok (.invokevirtual 155, 3) := by decide +kernel
theorem dX11_way_18 : decode cX11_way 18 = .ok (.aload_n 0, 1) := by decide +kernel
theorem dX11_way_19 : decode cX11_way 19 = .ok (.iload_n 1, 1) := by decide +kernel
theorem dX11_way_20 : decode cX11_way 20 = .ok (.invokevirtual 158, 3) := by decide +kernel
theorem dX11_way_23 : decode cX11_way 23 = .ok (.ifCond .eq 6, 3) := by decide +kernel
theorem dX11_way_26 : decode cX11_way 26 = .ok (.bipush (-2), 2) := by decide +kernel
theorem dX11_way_28 : decode cX11_way 28 = .ok (.ireturn, 1) := by decide +kernel
theorem dX11_way_29 : decode cX11_way 29 = .ok (.iload_n 1, 1) := by decide +kernel
theorem dX11_way_30 : decode cX11_way 30 = .ok (.istore_n 3, 1) := by decide +kernel
theorem dX11_way_31 : decode cX11_way 31 = .ok (.iconst 0, 1) := by decide +kernel
theorem dX11_way_32 : decode cX11_way 32 = .ok (.istore 4, 2) := by decide +kernel
theorem dX11_way_34 : decode cX11_way 34 = .ok (.iload 4, 2) := by decide +kernel
theorem dX11_way_36 : decode cX11_way 36 = .ok (.iload_n 2, 1) := by decide +kernel
theorem dX11_way_37 : decode cX11_way 37 = .ok (.if_icmp .ge 21, 3) := by decide +kernel
theorem dX11_way_40 : decode cX11_way 40 = .ok (.iload_n 3, 1) := by decide +kernel
theorem dX11_way_41 : decode cX11_way 41 = .ok (.bipush (-4), 2) := by decide +kernel
theorem dX11_way_43 : decode cX11_way 43 = .ok (.if_icmp .eq 15, 3) := by decide +kernel
theorem dX11_way_46 : decode cX11_way 46 = .ok (.aload_n 0, 1) := by decide +kernel
theorem dX11_way_47 : decode cX11_way 47 = .ok (.iload_n 3, 1) := by decide +kernel
theorem dX11_way_48 : decode cX11_way 48 = .ok (.invokevirtual 161, 3) := by decide +kernel
theorem dX11_way_51 : decode cX11_way 51 = .ok (.istore_n 3, 1) := by decide +kernel
theorem dX11_way_52 : decode cX11_way 52 = .ok (.iinc 4 1, 3) := by decide +kernel
theorem dX11_way_55 : decode cX11_way 55 = .ok (.goto (-21), 3) := by decide +kernel
theorem dX11_way_58 : decode cX11_way 58 = .ok (.iload_n 3, 1) := by decide +kernel
theorem dX11_way_59 : decode cX11_way 59 = .ok (.ireturn, 1) := by decide +kernel
theorem dX11_endless_0 : decode cX11_endless 0 = .ok (.aload_n 0, 1) := by decide +kernel
theorem dX11_endless_1 : decode cX11_endless 1 = .ok (.iload_n 1, 1) := by decide +kernel
theorem dX11_endless_2 : decode cX11_endless 2 = .ok (.invokevirtual 103, 3) := by decide +kernel
theorem dX11_endless_5 : decode cX11_endless 5 = .ok (.ifCond .ne 5, 3) := by decide +kernel
theorem dX11_endless_8 : decode cX11_endless 8 = .ok (.iconst (-1), 1) := by decide +kernel
theorem dX11_endless_9 : decode cX11_endless 9 = .ok (.ireturn, 1) := by decide +kernel
theorem dX11_endless_10 : decode cX11_endless 10 = .ok (.aload_n 0, 1) := by decide +kernel
theorem dX11_endless_11 : decode cX11_endless 11 = .ok (.invokevirtual 133, 3) := by decide +kernel
theorem dX11_endless_14 : decode cX11_endless 14 = .ok (.iconst 0, 1) := by decide +kernel
theorem dX11_endless_15 : decode cX11_endless 15 = .ok (.istore_n 2, 1) := by decide +kernel
theorem dX11_endless_16 : decode cX11_endless 16 = .ok (.iload_n 2, 1) := by decide +kernel
theorem dX11_endless_17 : decode cX11_endless 17 = .ok (.aload_n 0, 1) := by decide +kernel
theorem dX11_endless_18 : decode cX11_endless 18 = .ok (.getfield 91, 3) := by decide +kernel
theorem dX11_endless_21 : decode cX11_endless 21 = .ok (.if_icmp .ge 47, 3) := by decide +kernel
theorem dX11_endless_24 : decode cX11_endless 24 = .ok (.iload_n 2, 1) := by decide +kernel
theorem dX11_endless_25 : decode cX11_endless 25 = .ok (.iload_n 1, 1) := by decide +kernel
theorem dX11_endless_26 : decode cX11_endless 26 = .ok (.if_icmp .eq 17, 3) := by decide +kernel
theorem dX11_endless_29 : decode cX11_endless 29 = .ok (.aload_n 0, 1) := by decide +kernel
theorem dX11_endless_30 : decode cX11_endless 30 = .ok (.getfield 40, 3) := by decide +kernel
theorem dX11_endless_33 : decode cX11_endless 33 = .ok (.iload_n 1, 1) := by decide +kernel
theorem dX11_endless_34 : decode cX11_endless 34 = .ok (.iaload, 1) := by decide +kernel
theorem dX11_endless_35 : decode cX11_endless 35 = .ok (.iload_n 2, 1) := by decide +kernel
theorem dX11_endless_36 : decode cX11_endless 36 = .ok (.ishr, 1) := by decide +kernel
theorem dX11_endless_37 : decode cX11_endless 37 = .ok (.iconst 1, 1) := by decide +kernel
theorem dX11_endless_38 : decode cX11_endless 38 = .ok (.iand, 1) := by decide +kernel
theorem dX11_endless_39 : decode cX11_endless 39 = .ok (.iconst 1, 1) := by decide +kernel
theorem dX11_endless_40 : decode cX11_endless 40 = .ok (.if_icmp .ne 22, 3) := by decide +kernel
theorem dX11_endless_43 : decode cX11_endless 43 = .ok (.aload_n 0, 1) := by decide +kernel
theorem dX11_endless_44 : decode cX11_endless 44 = .ok (.iload_n 2, 1) := by decide +kernel
theorem dX11_endless_45 : decode cX11_endless 45 = .ok (.invokevirtual 136, 3) := by decide +kernel
theorem dX11_endless_48 : decode cX11_endless 48 = .ok (.ifCond .eq 14, 3) := by decide +kernel
theorem dX11_endless_51 : decode cX11_endless 51 = .ok (.aload_n 0, 1) := by decide +kernel
theorem dX11_endless_52 : decode cX11_endless 52 = .ok (.getfield 13, 3) := by decide +kernel
theorem dX11_endless_55 : decode cX11_endless 55 = .ok (.iload_n 2, 1) := by decide +kernel
theorem dX11_endless_56 : decode cX11_endless 56 = .ok (.iaload, 1) := by decide +kernel
theorem dX11_endless_57 : decode cX11_endless 57 = .ok (.ifCond .ne 5, 3) := by decide +kernel
theorem dX11_endless_60 : decode cX11_endless 60 = .ok (.iload_n 2, 1) := by decide +kernel
theorem dX11_endless_61 : decode cX11_endless 61 = .ok (.ireturn, 1) := by decide +kernel
theorem dX11_endless_62 : decode cX11_endless 62 = .ok (.iinc 2 1, 3) := by decide +kernel
theorem dX11_endless_65 : decode cX11_endless 65 = .ok (.goto (-49), 3) := by decide +kernel
theorem dX11_endless_68 : decode cX11_endless 68 = .ok (.bipush (-4), 2) := by decide +kernel
theorem dX11_endless_70 : decode cX11_endless 70 = .ok (.ireturn, 1) := by decide +kernel
theorem dX11_interrupt_0 : decode cX11_interrupt 0 = .ok (.iload_n 1, 1) := by decide +kernel
theorem dX11_interrupt_1 : decode cX11_interrupt 1 = .ok (.i2l, 1) := by decide +kernel
theorem dX11_interrupt_2 : decode cX11_interrupt 2 = .ok (.lconst 1, 1) := by decide +kernel
theorem dX11_interrupt_3 : decode cX11_interrupt 3 = .ok (.ldc2_w 99, 3) := by decide +kernel
theorem dX11_interrupt_6 : decode cX11_interrupt 6 = .ok (.invokestatic 95, 3) := by decide +kernel
theorem dX11_interrupt_9 : decode cX11_interrupt 9 = .ok (.ifCond .eq 23, 3) := by decide +kernel
theorem dX11_interrupt_12 : decode cX11_interrupt 12 = .ok (.aload_n 0, 1) := by decide +kernel
theorem dX11_interrupt_13 : decode cX11_interrupt 13 = .ok (.iload_n 2, 1) := by decide +kernel
theorem dX11_interrupt_14 : decode cX11_interrupt 14 = .ok (.invokevirtual 103, 3) := by decide +kernel
theorem dX11_interrupt_17 : decode cX11_interrupt 17 = .ok (.ifCond .eq 15, 3) := by decide +kernel
theorem dX11_interrupt_20 : decode cX11_interrupt 20 = .ok (.iload_n 3, 1) := by decide +kernel
theorem dX11_interrupt_21 : decode cX11_interrupt 21 = .ok (.i2l, 1) := by decide +kernel
theorem dX11_interrupt_22 : decode cX11_interrupt 22 = .ok (.lconst 0, 1) := by decide +kernel
theorem dX11_interrupt_23 : decode cX11_interrupt 23 = .ok (.ldc2_w 164, 3) := by decide +kernel
theorem dX11_interrupt_26 : decode cX11_interrupt 26 = .ok (.invokestatic 95, 3) := by decide +kernel
theorem dX11_interrupt_29 : decode cX11_interrupt 29 = .ok (.ifCond .ne 5, 3) := by decide +kernel
theorem dX11_interrupt_32 : decode cX11_interrupt 32 = .ok (.iconst (-1), 1) := by decide +kernel
theorem dX11_interrupt_33 : decode cX11_interrupt 33 = .ok (.ireturn, 1) := by decide +kernel
theorem dX11_interrupt_34 : decode cX11_interrupt 34 = .ok (.aload_n 0, 1) := by decide +kernel
theorem dX11_interrupt_35 : decode cX11_interrupt 35 = .ok (.getfield 166, 3) := by decide +kernel
theorem dX11_interrupt_38 : decode cX11_interrupt 38 = .ok (.bipush 8, 2) := by decide +kernel
theorem dX11_interrupt_40 : decode cX11_interrupt 40 = .ok (.if_icmp .ne 6, 3) := by decide +kernel
theorem dX11_interrupt_43 : decode cX11_interrupt 43 = .ok (.bipush (-3), 2) := by decide +kernel
theorem dX11_interrupt_45 : decode cX11_interrupt 45 = .ok (.ireturn, 1) := by decide +kernel
theorem dX11_interrupt_46 : decode cX11_interrupt 46 = .ok (.aload_n 0, 1) := by decide +kernel
theorem dX11_interrupt_47 : decode cX11_interrupt 47 = .ok (.getfield 49, 3) := by decide +kernel
theorem dX11_interrupt_50 : decode cX11_interrupt 50 = .ok (.aload_n 0, 1) := by decide +kernel
theorem dX11_interrupt_51 : decode cX11_interrupt 51 = .ok (.getfield 166, 3) := by decide +kernel
theorem dX11_interrupt_54 : decode cX11_interrupt 54 = .ok (.iload_n 1, 1) := by decide +kernel
theorem dX11_interrupt_55 : decode cX11_interrupt 55 = .ok (.iastore, 1) := by decide +kernel
theorem dX11_interrupt_56 : decode cX11_interrupt 56 = .ok (.aload_n 0, 1) := by decide +kernel
theorem dX11_interrupt_57 : decode cX11_interrupt 57 = .ok (.getfield 52, 3) := by decide +kernel
theorem dX11_interrupt_60 : decode cX11_interrupt 60 = .ok (.aload_n 0, 1) := by decide +kernel
theorem dX11_interrupt_61 : decode cX11_interrupt 61 = .ok (.getfield 166, 3) := by decide +kernel
theorem dX11_interrupt_64 : decode cX11_interrupt 64 = .ok (.iload_n 2, 1) := by decide +kernel
theorem dX11_interrupt_65 : decode cX11_interrupt 65 = .ok (.iastore, 1) := by decide +kernel
theorem dX11_interrupt_66 : decode cX11_interrupt 66 = .ok (.aload_n 0, 1) := by decide +kernel
theorem dX11_interrupt_67 : decode cX11_interrupt 67 = .ok (.getfield 55, 3) := by decide +kernel
theorem dX11_interrupt_70 : decode cX11_interrupt 70 = .ok (.aload_n 0, 1) := by decide +kernel
theorem dX11_interrupt_71 : decode cX11_interrupt 71 = .ok (.getfield 166, 3) := by decide +kernel
theorem dX11_interrupt_74 : decode cX11_interrupt 74 = .ok (.iload_n 3, 1) := by decide +kernel
theorem dX11_interrupt_75 : decode cX11_interrupt 75 = .ok (.iastore, 1) := by decide +kernel
theorem dX11_interrupt_76 : decode cX11_interrupt 76 = .ok (.aload_n 0, 1) := by decide +kernel
theorem dX11_interrupt_77 : decode cX11_interrupt 77 = .ok (.dup, 1) := by decide +kernel
theorem dX11_interrupt_78 : decode cX11_interrupt 78 = .ok (.getfield 166, 3) := by decide +kernel
theorem dX11_interrupt_81 : decode cX11_interrupt 81 = .ok (.iconst 1, 1) := by decide +kernel
theorem dX11_interrupt_82 : decode cX11_interrupt 82 = .ok (.iadd, 1) := by decide +kernel
theorem dX11_interrupt_83 : decode cX11_interrupt 83 = .ok (.putfield 166, 3) := by decide +kernel
theorem dX11_interrupt_86 : decode cX11_interrupt 86 = .ok (.aload_n 0, 1) := by decide +kernel
theorem dX11_interrupt_87 : decode cX11_interrupt 87 = .ok (.getfield 166, 3) := by decide +kernel
theorem dX11_interrupt_90 : decode cX11_interrupt 90 = .ok (.iconst 1, 1) := by decide +kernel
theorem dX11_interrupt_91 : decode cX11_interrupt 91 = .ok (.isub, 1) := by decide +kernel
theorem dX11_interrupt_92 : decode cX11_interrupt 92 = .ok (.ireturn, 1) := by decide +kernel
theorem dX11_task_0 : decode cX11_task 0 = .ok (.aload_n 0, 1) := by decide +kernel
theorem dX11_task_1 : decode cX11_task 1 = .ok (.iload_n 1, 1) := by decide +kernel
theorem dX11_task_2 : decode cX11_task 2 = .ok (.invokevirtual 103, 3) := by decide +kernel
theorem dX11_task_5 : decode cX11_task 5 = .ok (.ifCond .eq 27, 3) := by decide +kernel
theorem dX11_task_8 : decode cX11_task 8 = .ok (.iload_n 2, 1) := by decide +kernel
theorem dX11_task_9 : decode cX11_task 9 = .ok (.i2l, 1) := by decide +kernel
theorem dX11_task_10 : decode cX11_task 10 = .ok (.lconst 0, 1) := by decide +kernel
theorem dX11_task_11 : decode cX11_task 11 = .ok (.ldc2_w 99, 3) := by decide +kernel
theorem dX11_task_14 : decode cX11_task 14 = .ok (.invokestatic 95, 3) := by decide +kernel
theorem dX11_task_17 : decode cX11_task 17 = .ok (.ifCond .eq 15, 3) := by decide +kernel
theorem dX11_task_20 : decode cX11_task 20 = .ok (.iload_n 3, 1) := by decide +kernel
theorem dX11_task_21 : decode cX11_task 21 = .ok (.i2l, 1) := by decide +kernel
theorem dX11_task_22 : decode cX11_task 22 = .ok (.lconst 0, 1) := by decide +kernel
theorem dX11_task_23 : decode cX11_task 23 = .ok (.ldc2_w 164, 3) := by decide +kernel
theorem dX11_task_26 : decode cX11_task 26 = .ok (.invokestatic 95, 3) := by decide +kernel
theorem dX11_task_29 : decode cX11_task 29 = .ok (.ifCond .ne 5, 3) := by decide +kernel
theorem dX11_task_32 : decode cX11_task 32 = .ok (.iconst (-1), 1) := by decide +kernel
theorem dX11_task_33 : decode cX11_task 33 = .ok (.ireturn, 1) := by decide +kernel
theorem dX11_task_34 : decode cX11_task 34 = .ok (.aload_n 0, 1) := by decide +kernel
theorem dX11_task_35 : decode cX11_task 35 = .ok (.getfield 169, 3) := by decide +kernel
theorem dX11_task_38 : decode cX11_task 38 = .ok (.bipush 6, 2) := by decide +kernel
theorem dX11_task_40 : decode cX11_task 40 = .ok (.if_icmp .ne 6, 3) := by decide +kernel
theorem dX11_task_43 : decode cX11_task 43 = .ok (.bipush (-3), 2) := by decide +kernel
theorem dX11_task_45 : decode cX11_task 45 = .ok (.ireturn, 1) := by decide +kernel
theorem dX11_task_46 : decode cX11_task 46 = .ok (.aload_n 0, 1) := by decide +kernel
theorem dX11_task_47 : decode cX11_task 47 = .ok (.getfield 58, 3) := by decide +kernel
theorem dX11_task_50 : decode cX11_task 50 = .ok (.aload_n 0, 1) := by decide +kernel
theorem dX11_task_51 : decode cX11_task 51 = .ok (.getfield 169, 3) := by decide +kernel
theorem dX11_task_54 : decode cX11_task 54 = .ok (.iload_n 1, 1) := by decide +kernel
theorem dX11_task_55 : decode cX11_task 55 = .ok (.iastore, 1) := by decide +kernel
theorem dX11_task_56 : decode cX11_task 56 = .ok (.aload_n 0, 1) := by decide +kernel
theorem dX11_task_57 : decode cX11_task 57 = .ok (.getfield 61, 3) := by decide +kernel
theorem dX11_task_60 : decode cX11_task 60 = .ok (.aload_n 0, 1) := by decide +kernel
theorem dX11_task_61 : decode cX11_task 61 = .ok (.getfield 169, 3) := by decide +kernel
theorem dX11_task_64 : decode cX11_task 64 = .ok (.iload_n 2, 1) := by decide +kernel
theorem dX11_task_65 : decode cX11_task 65 = .ok (.iastore, 1) := by decide +kernel
theorem dX11_task_66 : decode cX11_task 66 = .ok (.aload_n 0, 1) := by decide +kernel
theorem dX11_task_67 : decode cX11_task 67 = .ok (.getfield 64, 3) := by decide +kernel
theorem dX11_task_70 : decode cX11_task 70 = .ok (.aload_n 0, 1) := by decide +kernel
theorem dX11_task_71 : decode cX11_task 71 = .ok (.getfield 169, 3) := by decide +kernel
theorem dX11_task_74 : decode cX11_task 74 = .ok (.iload_n 3, 1) := by decide +kernel
theorem dX11_task_75 : decode cX11_task 75 = .ok (.iastore, 1) := by decide +kernel
theorem dX11_task_76 : decode cX11_task 76 = .ok (.aload_n 0, 1) := by decide +kernel
theorem dX11_task_77 : decode cX11_task 77 = .ok (.dup, 1) := by decide +kernel
theorem dX11_task_78 : decode cX11_task 78 = .ok (.getfield 169, 3) := by decide +kernel
theorem dX11_task_81 : decode cX11_task 81 = .ok (.iconst 1, 1) := by decide +kernel
theorem dX11_task_82 : decode cX11_task 82 = .ok (.iadd, 1) := by decide +kernel
theorem dX11_task_83 : decode cX11_task 83 = .ok (.putfield 169, 3) := by decide +kernel
theorem dX11_task_86 : decode cX11_task 86 = .ok (.aload_n 0, 1) := by decide +kernel
theorem dX11_task_87 : decode cX11_task 87 = .ok (.getfield 169, 3) := by decide +kernel
theorem dX11_task_90 : decode cX11_task 90 = .ok (.iconst 1, 1) := by decide +kernel
theorem dX11_task_91 : decode cX11_task 91 = .ok (.isub, 1) := by decide +kernel
theorem dX11_task_92 : decode cX11_task 92 = .ok (.ireturn, 1) := by decide +kernel
theorem dX11_isTask_0 : decode cX11_isTask 0 = .ok (.iload_n 1, 1) := by decide +kernel
theorem dX11_isTask_1 : decode cX11_isTask 1 = .ok (.i2l, 1) := by decide +kernel
theorem dX11_isTask_2 : decode cX11_isTask 2 = .ok (.lconst 0, 1) := by decide +kernel
theorem dX11_isTask_3 : decode cX11_isTask 3 = .ok (.aload_n 0, 1) := by decide +kernel
theorem dX11_isTask_4 : decode cX11_isTask 4 = .ok (.getfield 169, 3) := by decide +kernel
theorem dX11_isTask_7 : decode cX11_isTask 7 = .ok (.iconst 1, 1) := by decide +kernel
theorem dX11_isTask_8 : decode cX11_isTask 8 = .ok (.isub, 1) := by decide +kernel
theorem dX11_isTask_9 : decode cX11_isTask 9 = .ok (.i2l, 1) := by decide +kernel
theorem dX11_isTask_10 : decode cX11_isTask 10 = .ok (.invokestatic 95, 3) := by decide +kernel
theorem dX11_isTask_13 : decode cX11_isTask 13 = .ok (.ireturn, 1) := by decide +kernel
theorem dX11_top_0 : decode cX11_top 0 = .ok (.iconst 0, 1) := by decide +kernel
theorem dX11_top_1 : decode cX11_top 1 = .ok (.istore_n 2, 1) := by decide +kernel
theorem dX11_top_2 : decode cX11_top 2 = .ok (.aload_n 0, 1) := by decide +kernel
theorem dX11_top_3 : decode cX11_top 3 = .ok (.getfield 61, 3) := by decide +kernel
theorem dX11_top_6 : decode cX11_top 6 = .ok (.iload_n 1, 1) := by decide +kernel
theorem dX11_top_7 : decode cX11_top 7 = .ok (.iaload, 1) := by decide +kernel
theorem dX11_top_8 : decode cX11_top 8 = .ok (.iconst 1, 1) := by decide +kernel
theorem dX11_top_9 : decode cX11_top 9 = .ok (.iadd, 1) := by decide +kernel
theorem dX11_top_10 : decode cX11_top 10 = .ok (.istore_n 3, 1) := by decide +kernel
theorem dX11_top_11 : decode cX11_top 11 = .ok (.iload_n 3, 1) := by decide +kernel
theorem dX11_top_12 : decode cX11_top 12 = .ok (.bipush 8, 2) := by decide +kernel
theorem dX11_top_14 : decode cX11_top 14 = .ok (.if_icmp .ge 102, 3) := by decide +kernel
theorem dX11_top_17 : decode cX11_top 17 = .ok (.iconst 0, 1) := by decide +kernel
theorem dX11_top_18 : decode cX11_top 18 = .ok (.istore 4, 2) := by decide +kernel
theorem dX11_top_20 : decode cX11_top 20 = .ok (.iconst 0, 1) := by decide +kernel
theorem dX11_top_21 : decode cX11_top 21 = .ok (.istore 5, 2) := by decide +kernel
theorem dX11_top_23 : decode cX11_top 23 = .ok (.iload 5, 2) := by decide +kernel
theorem dX11_top_25 : decode cX11_top 25 = .ok (.aload_n 0, 1) := by decide +kernel
theorem dX11_top_26 : decode cX11_top 26 = .ok (.getfield 166, 3) := by decide +kernel
theorem dX11_top_29 : decode cX11_top 29 = .ok (.if_icmp .ge 76, 3) := by decide +kernel
theorem dX11_top_32 : decode cX11_top 32 = .ok (.aload_n 0, 1) := by decide +kernel
theorem dX11_top_33 : decode cX11_top 33 = .ok (.getfield 49, 3) := by decide +kernel
theorem dX11_top_36 : decode cX11_top 36 = .ok (.iload 5, 2) := by decide +kernel
theorem dX11_top_38 : decode cX11_top 38 = .ok (.iaload, 1) := by decide +kernel
theorem dX11_top_39 : decode cX11_top 39 = .ok (.iload_n 3, 1) := by decide +kernel
theorem dX11_top_40 : decode cX11_top 40 = .ok (.if_icmp .ne 59, 3) := by decide +kernel
theorem dX11_top_43 : decode cX11_top 43 = .ok (.aload_n 0, 1) := by decide +kernel
theorem dX11_top_44 : decode cX11_top 44 = .ok (.getfield 46, 3) := by decide +kernel
theorem dX11_top_47 : decode cX11_top 47 = .ok (.aload_n 0, 1) := by decide +kernel
theorem dX11_top_48 : decode cX11_top 48 = .ok (.getfield 52, 3) := by decide +kernel
theorem dX11_top_51 : decode cX11_top 51 = .ok (.iload 5, 2) := by decide +kernel
theorem dX11_top_53 : decode cX11_top 53 = .ok (.iaload, 1) := by decide +kernel
theorem dX11_top_54 : decode cX11_top 54 = .ok (.iaload, 1) := by decide +kernel
theorem dX11_top_55 : decode cX11_top 55 = .ok (.istore 6, 2) := by decide +kernel
theorem dX11_top_57 : decode cX11_top 57 = .ok (.iload 6, 2) := by decide +kernel
theorem dX11_top_59 : decode cX11_top 59 = .ok (.bipush (-5), 2) := by decide +kernel
theorem dX11_top_61 : decode cX11_top 61 = .ok (.if_icmp .ne 6, 3) := by decide +kernel
theorem dX11_top_64 : decode cX11_top 64 = .ok (.bipush (-5), 2) := by decide +kernel
theorem dX11_top_66 : decode cX11_top 66 = .ok (.ireturn, 1) := by decide +kernel
theorem dX11_top_67 : decode cX11_top 67 = .ok (.aload_n 0, 1) := by decide +kernel
theorem dX11_top_68 : decode cX11_top 68 = .ok (.getfield 55, 3) := by decide +kernel
theorem dX11_top_71 : decode cX11_top 71 = .ok (.iload 5, 2) := by decide +kernel
theorem dX11_top_73 : decode cX11_top 73 = .ok (.iaload, 1) := by decide +kernel
theorem dX11_top_74 : decode cX11_top 74 = .ok (.iload 6, 2) := by decide +kernel
theorem dX11_top_76 : decode cX11_top 76 = .ok (.iadd, 1) := by decide +kernel
theorem dX11_top_77 : decode cX11_top 77 = .ok (.iload 4, 2) := by decide +kernel
theorem dX11_top_79 : decode cX11_top 79 = .ok (.if_icmp .le 16, 3) := by decide +kernel
theorem dX11_top_82 : decode cX11_top 82 = .ok (.aload_n 0, 1) := by decide +kernel
theorem dX11_top_83 : decode cX11_top 83 = .ok (.getfield 55, 3) := by decide +kernel
theorem dX11_top_86 : decode cX11_top 86 = .ok (.iload 5, 2) := by decide +kernel
theorem dX11_top_88 : decode cX11_top 88 = .ok (.iaload, 1) := by decide +kernel
theorem dX11_top_89 : decode cX11_top 89 = .ok (.iload 6, 2) := by decide +kernel
theorem dX11_top_91 : decode cX11_top 91 = .ok (.iadd, 1) := by decide +kernel
theorem dX11_top_92 : decode cX11_top 92 = .ok (.goto 5, 3) := by decide +kernel
theorem dX11_top_95 : decode cX11_top 95 = .ok (.iload 4, 2) := by decide +kernel
theorem dX11_top_97 : decode cX11_top 97 = .ok (.istore 4, 2) := by decide +kernel
theorem dX11_top_99 : decode cX11_top 99 = .ok (.iinc 5 1, 3) := by decide +kernel
theorem dX11_top_102 : decode cX11_top 102 = .ok (.goto (-79), 3) := by decide +kernel
theorem dX11_top_105 : decode cX11_top 105 = .ok (.iload_n 2, 1) := by decide +kernel
theorem dX11_top_106 : decode cX11_top 106 = .ok (.iload 4, 2) := by decide +kernel
theorem dX11_top_108 : decode cX11_top 108 = .ok (.iadd, 1) := by decide +kernel
theorem dX11_top_109 : decode cX11_top 109 = .ok (.istore_n 2, 1) := by decide +kernel
theorem dX11_top_110 : decode cX11_top 110 = .ok (.iinc 3 1, 3) := by decide +kernel
theorem dX11_top_113 : decode cX11_top 113 = .ok (.goto (-102), 3) := by decide +kernel
theorem dX11_top_116 : decode cX11_top 116 = .ok (.iload_n 2, 1) := by decide +kernel
theorem dX11_top_117 : decode cX11_top 117 = .ok (.ireturn, 1) := by decide +kernel
theorem dX11_totalOf_0 : decode cX11_totalOf 0 = .ok (.aload_n 0, 1) := by decide +kernel
theorem dX11_totalOf_1 : decode cX11_totalOf 1 = .ok (.getfield 46, 3) := by decide +kernel
theorem dX11_totalOf_4 : decode cX11_totalOf 4 = .ok (.aload_n 0, 1) := by decide +kernel
theorem dX11_totalOf_5 : decode cX11_totalOf 5 = .ok (.getfield 58, 3) := by decide +kernel
theorem dX11_totalOf_8 : decode cX11_totalOf 8 = .ok (.iload_n 1, 1) := by decide +kernel
theorem dX11_totalOf_9 : decode cX11_totalOf 9 = .ok (.iaload, 1) := by decide +kernel
theorem dX11_totalOf_10 : decode cX11_totalOf 10 = .ok (.iaload, 1) := by decide +kernel
theorem dX11_totalOf_11 : decode cX11_totalOf 11 = .ok (.istore_n 2, 1) := by decide +kernel
theorem dX11_totalOf_12 : decode cX11_totalOf 12 = .ok (.aload_n 0, 1) := by decide +kernel
theorem dX11_totalOf_13 : decode cX11_totalOf 13 = .ok (.iload_n 1, 1) := by decide +kernel
theorem dX11_totalOf_14 : decode cX11_totalOf 14 = .ok (.invokevirtual 172, 3) := by decide +kernel
theorem dX11_totalOf_17 : decode cX11_totalOf 17 = .ok (.istore_n 3, 1) := by decide +kernel
theorem dX11_totalOf_18 : decode cX11_totalOf 18 = .ok (.iload_n 2, 1) := by decide +kernel
theorem dX11_totalOf_19 : decode cX11_totalOf 19 = .ok (.bipush (-5), 2) := by decide +kernel
theorem dX11_totalOf_21 : decode cX11_totalOf 21 = .ok (.if_icmp .eq 9, 3) := by decide +kernel
theorem dX11_totalOf_24 : decode cX11_totalOf 24 = .ok (.iload_n 3, 1) := by decide +kernel
theorem dX11_totalOf_25 : decode cX11_totalOf 25 = .ok (.bipush (-5), 2) := by decide +kernel
theorem dX11_totalOf_27 : decode cX11_totalOf 27 = .ok (.if_icmp .ne 8, 3) := by decide +kernel
theorem dX11_totalOf_30 : decode cX11_totalOf 30 = .ok (.bipush (-5), 2) := by decide +kernel
theorem dX11_totalOf_32 : decode cX11_totalOf 32 = .ok (.goto 6, 3) := by decide +kernel
theorem dX11_totalOf_35 : decode cX11_totalOf 35 = .ok (.iload_n 2, 1) := by decide +kernel
theorem dX11_totalOf_36 : decode cX11_totalOf 36 = .ok (.iload_n 3, 1) := by decide +kernel
theorem dX11_totalOf_37 : decode cX11_totalOf 37 = .ok (.iadd, 1) := by decide +kernel
theorem dX11_totalOf_38 : decode cX11_totalOf 38 = .ok (.ireturn, 1) := by decide +kernel
theorem dX11_total_0 : decode cX11_total 0 = .ok (.aload_n 0, 1) := by decide +kernel
theorem dX11_total_1 : decode cX11_total 1 = .ok (.iload_n 1, 1) := by decide +kernel
theorem dX11_total_2 : decode cX11_total 2 = .ok (.invokevirtual 175, 3) := by decide +kernel
theorem dX11_total_5 : decode cX11_total 5 = .ok (.ifCond .eq 15, 3) := by decide +kernel
theorem dX11_total_8 : decode cX11_total 8 = .ok (.iload_n 2, 1) := by decide +kernel
theorem dX11_total_9 : decode cX11_total 9 = .ok (.i2l, 1) := by decide +kernel
theorem dX11_total_10 : decode cX11_total 10 = .ok (.lconst 0, 1) := by decide +kernel
theorem dX11_total_11 : decode cX11_total 11 = .ok (.ldc2_w 112, 3) := by decide +kernel
theorem dX11_total_14 : decode cX11_total 14 = .ok (.invokestatic 95, 3) := by decide +kernel
theorem dX11_total_17 : decode cX11_total 17 = .ok (.ifCond .ne 5, 3) := by decide +kernel
theorem dX11_total_20 : decode cX11_total 20 = .ok (.iconst (-1), 1) := by decide +kernel
theorem dX11_total_21 : decode cX11_total 21 = .ok (.ireturn, 1) := by decide +kernel
theorem dX11_total_22 : decode cX11_total 22 = .ok (.aload_n 0, 1) := by decide +kernel
theorem dX11_total_23 : decode cX11_total 23 = .ok (.invokevirtual 155, 3) := by decide +kernel
theorem dX11_total_26 : decode cX11_total 26 = .ok (.aload_n 0, 1) := by decide +kernel
theorem dX11_total_27 : decode cX11_total 27 = .ok (.iload_n 1, 1) := by decide +kernel
theorem dX11_total_28 : decode cX11_total 28 = .ok (.invokevirtual 178, 3) := by decide +kernel
theorem dX11_total_31 : decode cX11_total 31 = .ok (.istore_n 3, 1) := by decide +kernel
theorem dX11_total_32 : decode cX11_total 32 = .ok (.iload_n 2, 1) := by decide +kernel
theorem dX11_total_33 : decode cX11_total 33 = .ok (.ifCond .ne 17, 3) := by decide +kernel
theorem dX11_total_36 : decode cX11_total 36 = .ok (.aload_n 0, 1) := by decide +kernel
theorem dX11_total_37 : decode cX11_total 37 = .ok (.getfield 46, 3) := by decide +kernel
theorem dX11_total_40 : decode cX11_total 40 = .ok (.aload_n 0, 1) := by decide +kernel
theorem dX11_total_41 : decode cX11_total 41 = .ok (.getfield 58, 3) := by decide +kernel
theorem dX11_total_44 : decode cX11_total 44 = .ok (.iload_n 1, 1) := by decide +kernel
theorem dX11_total_45 : decode cX11_total 45 = .ok (.iaload, 1) := by decide +kernel
theorem dX11_total_46 : decode cX11_total 46 = .ok (.iaload, 1) := by decide +kernel
theorem dX11_total_47 : decode cX11_total 47 = .ok (.goto 39, 3) := by decide +kernel
theorem dX11_total_50 : decode cX11_total 50 = .ok (.iload_n 2, 1) := by decide +kernel
theorem dX11_total_51 : decode cX11_total 51 = .ok (.iconst 1, 1) := by decide +kernel
theorem dX11_total_52 : decode cX11_total 52 = .ok (.if_icmp .ne 11, 3) := by decide +kernel
theorem dX11_total_55 : decode cX11_total 55 = .ok (.aload_n 0, 1) := by decide +kernel
theorem dX11_total_56 : decode cX11_total 56 = .ok (.iload_n 1, 1) := by decide +kernel
theorem dX11_total_57 : decode cX11_total 57 = .ok (.invokevirtual 172, 3) := by decide +kernel
theorem dX11_total_60 : decode cX11_total 60 = .ok (.goto 26, 3) := by decide +kernel
theorem dX11_total_63 : decode cX11_total 63 = .ok (.iload_n 2, 1) := by decide +kernel
theorem dX11_total_64 : decode cX11_total 64 = .ok (.iconst 2, 1) := by decide +kernel
theorem dX11_total_65 : decode cX11_total 65 = .ok (.if_icmp .eq 9, 3) := by decide +kernel
theorem dX11_total_68 : decode cX11_total 68 = .ok (.iload_n 3, 1) := by decide +kernel
theorem dX11_total_69 : decode cX11_total 69 = .ok (.bipush (-5), 2) := by decide +kernel
theorem dX11_total_71 : decode cX11_total 71 = .ok (.if_icmp .ne 7, 3) := by decide +kernel
theorem dX11_total_74 : decode cX11_total 74 = .ok (.iload_n 3, 1) := by decide +kernel
theorem dX11_total_75 : decode cX11_total 75 = .ok (.goto 11, 3) := by decide +kernel
theorem dX11_total_78 : decode cX11_total 78 = .ok (.iload_n 3, 1) := by decide +kernel
theorem dX11_total_79 : decode cX11_total 79 = .ok (.aload_n 0, 1) := by decide +kernel
theorem dX11_total_80 : decode cX11_total 80 = .ok (.getfield 64, 3) := by decide +kernel
theorem dX11_total_83 : decode cX11_total 83 = .ok (.iload_n 1, 1) := by decide +kernel
theorem dX11_total_84 : decode cX11_total 84 = .ok (.iaload, 1) := by decide +kernel
theorem dX11_total_85 : decode cX11_total 85 = .ok (.iadd, 1) := by decide +kernel
theorem dX11_total_86 : decode cX11_total 86 = .ok (.ireturn, 1) := by decide +kernel
theorem dX11_apart_0 : decode cX11_apart 0 = .ok (.aload_n 0, 1) := by decide +kernel
theorem dX11_apart_1 : decode cX11_apart 1 = .ok (.iload_n 1, 1) := by decide +kernel
theorem dX11_apart_2 : decode cX11_apart 2 = .ok (.invokevirtual 175, 3) := by decide +kernel
theorem dX11_apart_5 : decode cX11_apart 5 = .ok (.ifCond .eq 16, 3) := by decide +kernel
theorem dX11_apart_8 : decode cX11_apart 8 = .ok (.aload_n 0, 1) := by decide +kernel
theorem dX11_apart_9 : decode cX11_apart 9 = .ok (.iload_n 2, 1) := by decide +kernel
theorem dX11_apart_10 : decode cX11_apart 10 = .ok (.invokevirtual 175, 3) := by decide +kernel
theorem dX11_apart_13 : decode cX11_apart 13 = .ok (.ifCond .eq 8, 3) := by decide +kernel
theorem dX11_apart_16 : decode cX11_apart 16 = .ok (.iload_n 1, 1) := by decide +kernel
theorem dX11_apart_17 : decode cX11_apart 17 = .ok (.iload_n 2, 1) := by decide +kernel
theorem dX11_apart_18 : decode cX11_apart 18 = .ok (.if_icmp .ne 5, 3) := by decide +kernel
theorem dX11_apart_21 : decode cX11_apart 21 = .ok (.iconst (-1), 1) := by decide +kernel
theorem dX11_apart_22 : decode cX11_apart 22 = .ok (.ireturn, 1) := by decide +kernel
theorem dX11_apart_23 : decode cX11_apart 23 = .ok (.aload_n 0, 1) := by decide +kernel
theorem dX11_apart_24 : decode cX11_apart 24 = .ok (.getfield 67, 3) := by decide +kernel
theorem dX11_apart_27 : decode cX11_apart 27 = .ok (.iload_n 1, 1) := by decide +kernel
theorem dX11_apart_28 : decode cX11_apart 28 = .ok (.iaload, 1) := by decide +kernel
theorem dX11_apart_29 : decode cX11_apart 29 = .ok (.iload_n 2, 1) := by decide +kernel
theorem dX11_apart_30 : decode cX11_apart 30 = .ok (.ishr, 1) := by decide +kernel
theorem dX11_apart_31 : decode cX11_apart 31 = .ok (.iconst 1, 1) := by decide +kernel
theorem dX11_apart_32 : decode cX11_apart 32 = .ok (.iand, 1) := by decide +kernel
theorem dX11_apart_33 : decode cX11_apart 33 = .ok (.istore 4, 2) := by decide +kernel
theorem dX11_apart_35 : decode cX11_apart 35 = .ok (.aload_n 0, 1) := by decide +kernel
theorem dX11_apart_36 : decode cX11_apart 36 = .ok (.getfield 67, 3) := by decide +kernel
theorem dX11_apart_39 : decode cX11_apart 39 = .ok (.iload_n 1, 1) := by decide +kernel
theorem dX11_apart_40 : decode cX11_apart 40 = .ok (.iload_n 3, 1) := by decide +kernel
theorem dX11_apart_41 : decode cX11_apart 41 = .ok (.ifCond .eq 16, 3) := by decide +kernel
theorem dX11_apart_44 : decode cX11_apart 44 = .ok (.aload_n 0, 1) := by decide +kernel
theorem dX11_apart_45 : decode cX11_apart 45 = .ok (.getfield 67, 3) := by decide +kernel
theorem dX11_apart_48 : decode cX11_apart 48 = .ok (.iload_n 1, 1) := by decide +kernel
theorem dX11_apart_49 : decode cX11_apart 49 = .ok (.iaload, 1) := by decide +kernel
theorem dX11_apart_50 : decode cX11_apart 50 = .ok (.iconst 1, 1) := by decide +kernel
theorem dX11_apart_51 : decode cX11_apart 51 = .ok (.iload_n 2, 1) := by decide +kernel
theorem dX11_apart_52 : decode cX11_apart 52 = .ok (.ishl, 1) := by decide +kernel
theorem dX11_apart_53 : decode cX11_apart 53 = .ok (.ior, 1) := by decide +kernel
theorem dX11_apart_54 : decode cX11_apart 54 = .ok (.goto 15, 3) := by decide +kernel
theorem dX11_apart_57 : decode cX11_apart 57 = .ok (.aload_n 0, 1) := by decide +kernel
theorem dX11_apart_58 : decode cX11_apart 58 = .ok (.getfield 67, 3) := by decide +kernel
theorem dX11_apart_61 : decode cX11_apart 61 = .ok (.iload_n 1, 1) := by decide +kernel
theorem dX11_apart_62 : decode cX11_apart 62 = .ok (.iaload, 1) := by decide +kernel
theorem dX11_apart_63 : decode cX11_apart 63 = .ok (.iconst 1, 1) := by decide +kernel
theorem dX11_apart_64 : decode cX11_apart 64 = .ok (.iload_n 2, 1) := by decide +kernel
theorem dX11_apart_65 : decode cX11_apart 65 = .ok (.ishl, 1) := by decide +kernel
theorem dX11_apart_66 : decode cX11_apart 66 = .ok (.iconst (-1), 1) := by decide +kernel
theorem dX11_apart_67 : decode cX11_apart 67 = .ok (.ixor, 1) := by decide +kernel
theorem dX11_apart_68 : decode cX11_apart 68 = .ok (.iand, 1) := by decide +kernel
theorem dX11_apart_69 : decode cX11_apart 69 = .ok (.iastore, 1) := by decide +kernel
theorem dX11_apart_70 : decode cX11_apart 70 = .ok (.aload_n 0, 1) := by decide +kernel
theorem dX11_apart_71 : decode cX11_apart 71 = .ok (.getfield 67, 3) := by decide +kernel
theorem dX11_apart_74 : decode cX11_apart 74 = .ok (.iload_n 2, 1) := by decide +kernel
theorem dX11_apart_75 : decode cX11_apart 75 = .ok (.iload_n 3, 1) := by decide +kernel
theorem dX11_apart_76 : decode cX11_apart 76 = .ok (.ifCond .eq 16, 3) := by decide +kernel
theorem dX11_apart_79 : decode cX11_apart 79 = .ok (.aload_n 0, 1) := by decide +kernel
theorem dX11_apart_80 : decode cX11_apart 80 = .ok (.getfield 67, 3) := by decide +kernel
theorem dX11_apart_83 : decode cX11_apart 83 = .ok (.iload_n 2, 1) := by decide +kernel
theorem dX11_apart_84 : decode cX11_apart 84 = .ok (.iaload, 1) := by decide +kernel
theorem dX11_apart_85 : decode cX11_apart 85 = .ok (.iconst 1, 1) := by decide +kernel
theorem dX11_apart_86 : decode cX11_apart 86 = .ok (.iload_n 1, 1) := by decide +kernel
theorem dX11_apart_87 : decode cX11_apart 87 = .ok (.ishl, 1) := by decide +kernel
theorem dX11_apart_88 : decode cX11_apart 88 = .ok (.ior, 1) := by decide +kernel
theorem dX11_apart_89 : decode cX11_apart 89 = .ok (.goto 15, 3) := by decide +kernel
theorem dX11_apart_92 : decode cX11_apart 92 = .ok (.aload_n 0, 1) := by decide +kernel
theorem dX11_apart_93 : decode cX11_apart 93 = .ok (.getfield 67, 3) := by decide +kernel
theorem dX11_apart_96 : decode cX11_apart 96 = .ok (.iload_n 2, 1) := by decide +kernel
theorem dX11_apart_97 : decode cX11_apart 97 = .ok (.iaload, 1) := by decide +kernel
theorem dX11_apart_98 : decode cX11_apart 98 = .ok (.iconst 1, 1) := by decide +kernel
theorem dX11_apart_99 : decode cX11_apart 99 = .ok (.iload_n 1, 1) := by decide +kernel
theorem dX11_apart_100 : decode cX11_apart 100 = .ok (.ishl, 1) := by decide +kernel
theorem dX11_apart_101 : decode cX11_apart 101 = .ok (.iconst (-1), 1) := by decide +kernel
theorem dX11_apart_102 : decode cX11_apart 102 = .ok (.ixor, 1) := by decide +kernel
theorem dX11_apart_103 : decode cX11_apart 103 = .ok (.iand, 1) := by decide +kernel
theorem dX11_apart_104 : decode cX11_apart 104 = .ok (.iastore, 1) := by decide +kernel
theorem dX11_apart_105 : decode cX11_apart 105 = .ok (.iload 4, 2) := by decide +kernel
theorem dX11_apart_107 : decode cX11_apart 107 = .ok (.ireturn, 1) := by decide +kernel
theorem dX11_sumOf_0 : decode cX11_sumOf 0 = .ok (.iconst 0, 1) := by decide +kernel
theorem dX11_sumOf_1 : decode cX11_sumOf 1 = .ok (.istore_n 1, 1) := by decide +kernel
theorem dX11_sumOf_2 : decode cX11_sumOf 2 = .ok (.iconst 0, 1) := by decide +kernel
theorem dX11_sumOf_3 : decode cX11_sumOf 3 = .ok (.istore_n 2, 1) := by decide +kernel
theorem dX11_sumOf_4 : decode cX11_sumOf 4 = .ok (.iload_n 2, 1) := by decide +kernel
theorem dX11_sumOf_5 : decode cX11_sumOf 5 = .ok (.aload_n 0, 1) := by decide +kernel
theorem dX11_sumOf_6 : decode cX11_sumOf 6 = .ok (.getfield 169, 3) := by decide +kernel
theorem dX11_sumOf_9 : decode cX11_sumOf 9 = .ok (.if_icmp .ge 118, 3) := by decide +kernel
theorem dX11_sumOf_12 : decode cX11_sumOf 12 = .ok (.iconst 0, 1) := by decide +kernel
theorem dX11_sumOf_13 : decode cX11_sumOf 13 = .ok (.istore_n 3, 1) := by decide +kernel
theorem dX11_sumOf_14 : decode cX11_sumOf 14 = .ok (.iconst 0, 1) := by decide +kernel
theorem dX11_sumOf_15 : decode cX11_sumOf 15 = .ok (.istore 4, 2) := by decide +kernel
theorem dX11_sumOf_17 : decode cX11_sumOf 17 = .ok (.iload 4, 2) := by decide +kernel
theorem dX11_sumOf_19 : decode cX11_sumOf 19 = .ok (.aload_n 0, 1) := by decide +kernel
theorem dX11_sumOf_20 : decode cX11_sumOf 20 = .ok (.getfield 169, 3) := by decide +kernel
theorem dX11_sumOf_23 : decode cX11_sumOf 23 = .ok (.if_icmp .ge 94, 3) := by decide +kernel
theorem dX11_sumOf_26 : decode cX11_sumOf 26 = .ok (.aload_n 0, 1) := by decide +kernel
theorem dX11_sumOf_27 : decode cX11_sumOf 27 = .ok (.getfield 70, 3) := by decide +kernel
theorem dX11_sumOf_30 : decode cX11_sumOf 30 = .ok (.iload 4, 2) := by decide +kernel
theorem dX11_sumOf_32 : decode cX11_sumOf 32 = .ok (.iaload, 1) := by decide +kernel
theorem dX11_sumOf_33 : decode cX11_sumOf 33 = .ok (.iload_n 2, 1) := by decide +kernel
theorem dX11_sumOf_34 : decode cX11_sumOf 34 = .ok (.if_icmp .ne 77, 3) := by decide +kernel
theorem dX11_sumOf_37 : decode cX11_sumOf 37 = .ok (.aload_n 0, 1) := by decide +kernel
theorem dX11_sumOf_38 : decode cX11_sumOf 38 = .ok (.iload 4, 2) := by decide +kernel
theorem dX11_sumOf_40 : decode cX11_sumOf 40 = .ok (.invokevirtual 178, 3) := by decide +kernel
theorem dX11_sumOf_43 : decode cX11_sumOf 43 = .ok (.aload_n 0, 1) := by decide +kernel
theorem dX11_sumOf_44 : decode cX11_sumOf 44 = .ok (.getfield 64, 3) := by decide +kernel
theorem dX11_sumOf_47 : decode cX11_sumOf 47 = .ok (.iload 4, 2) := by decide +kernel
theorem dX11_sumOf_49 : decode cX11_sumOf 49 = .ok (.iaload, 1) := by decide +kernel
theorem dX11_sumOf_50 : decode cX11_sumOf 50 = .ok (.iadd, 1) := by decide +kernel
theorem dX11_sumOf_51 : decode cX11_sumOf 51 = .ok (.istore 5, 2) := by decide +kernel
theorem dX11_sumOf_53 : decode cX11_sumOf 53 = .ok (.iload 5, 2) := by decide +kernel
theorem dX11_sumOf_55 : decode cX11_sumOf 55 = .ok (.iload_n 3, 1) := by decide +kernel
theorem dX11_sumOf_56 : decode cX11_sumOf 56 = .ok (.if_icmp .le 8, 3) := by decide +kernel
theorem dX11_sumOf_59 : decode cX11_sumOf 59 = .ok (.iload 5, 2) := by decide +kernel
theorem dX11_sumOf_61 : decode cX11_sumOf 61 = .ok (.goto 4, 3) := by decide +kernel
theorem dX11_sumOf_64 : decode cX11_sumOf 64 = .ok (.iload_n 3, 1) := by decide +kernel
theorem dX11_sumOf_65 : decode cX11_sumOf 65 = .ok (.istore_n 3, 1) := by decide +kernel
theorem dX11_sumOf_66 : decode cX11_sumOf 66 = .ok (.iconst 0, 1) := by decide +kernel
theorem dX11_sumOf_67 : decode cX11_sumOf 67 = .ok (.istore 6, 2) := by decide +kernel
theorem dX11_sumOf_69 : decode cX11_sumOf 69 = .ok (.iload 6, 2) := by decide +kernel
theorem dX11_sumOf_71 : decode cX11_sumOf 71 = .ok (.iload 4, 2) := by decide +kernel
theorem dX11_sumOf_73 : decode cX11_sumOf 73 = .ok (.if_icmp .ge 38, 3) := by decide +kernel
theorem dX11_sumOf_76 : decode cX11_sumOf 76 = .ok (.aload_n 0, 1) := by decide +kernel
theorem dX11_sumOf_77 : decode cX11_sumOf 77 = .ok (.getfield 70, 3) := by decide +kernel
theorem dX11_sumOf_80 : decode cX11_sumOf 80 = .ok (.iload 6, 2) := by decide +kernel
theorem dX11_sumOf_82 : decode cX11_sumOf 82 = .ok (.iaload, 1) := by decide +kernel
theorem dX11_sumOf_83 : decode cX11_sumOf 83 = .ok (.iload_n 2, 1) := by decide +kernel
theorem dX11_sumOf_84 : decode cX11_sumOf 84 = .ok (.if_icmp .ne 21, 3) := by decide +kernel
theorem dX11_sumOf_87 : decode cX11_sumOf 87 = .ok (.aload_n 0, 1) := by decide +kernel
theorem dX11_sumOf_88 : decode cX11_sumOf 88 = .ok (.getfield 67, 3) := by decide +kernel
theorem dX11_sumOf_91 : decode cX11_sumOf 91 = .ok (.iload 4, 2) := by decide +kernel
theorem dX11_sumOf_93 : decode cX11_sumOf 93 = .ok (.iaload, 1) := by decide +kernel
theorem dX11_sumOf_94 : decode cX11_sumOf 94 = .ok (.iload 6, 2) := by decide +kernel
theorem dX11_sumOf_96 : decode cX11_sumOf 96 = .ok (.ishr, 1) := by decide +kernel
theorem dX11_sumOf_97 : decode cX11_sumOf 97 = .ok (.iconst 1, 1) := by decide +kernel
theorem dX11_sumOf_98 : decode cX11_sumOf 98 = .ok (.iand, 1) := by decide +kernel
theorem dX11_sumOf_99 : decode cX11_sumOf 99 = .ok (.ifCond .ne 6, 3) := by decide +kernel
theorem dX11_sumOf_102 : decode cX11_sumOf 102 = .ok (.bipush (-4), 2) := by decide +kernel
theorem dX11_sumOf_104 : decode cX11_sumOf 104 = .ok (.ireturn, 1) := by decide +kernel
theorem dX11_sumOf_105 : decode cX11_sumOf 105 = .ok (.iinc 6 1, 3) := by decide +kernel
theorem dX11_sumOf_108 : decode cX11_sumOf 108 = .ok (.goto (-39), 3) := by decide +kernel
theorem dX11_sumOf_111 : decode cX11_sumOf 111 = .ok (.iinc 4 1, 3) := by decide +kernel
theorem dX11_sumOf_114 : decode cX11_sumOf 114 = .ok (.goto (-97), 3) := by decide +kernel
theorem dX11_sumOf_117 : decode cX11_sumOf 117 = .ok (.iload_n 1, 1) := by decide +kernel
theorem dX11_sumOf_118 : decode cX11_sumOf 118 = .ok (.iload_n 3, 1) := by decide +kernel
theorem dX11_sumOf_119 : decode cX11_sumOf 119 = .ok (.iadd, 1) := by decide +kernel
theorem dX11_sumOf_120 : decode cX11_sumOf 120 = .ok (.istore_n 1, 1) := by decide +kernel
theorem dX11_sumOf_121 : decode cX11_sumOf 121 = .ok (.iinc 2 1, 3) := by decide +kernel
theorem dX11_sumOf_124 : decode cX11_sumOf 124 = .ok (.goto (-120), 3) := by decide +kernel
theorem dX11_sumOf_127 : decode cX11_sumOf 127 = .ok (.iload_n 1, 1) := by decide +kernel
theorem dX11_sumOf_128 : decode cX11_sumOf 128 = .ok (.ireturn, 1) := by decide +kernel
theorem dX11_highest_0 : decode cX11_highest 0 = .ok (.iconst (-1), 1) := by decide +kernel
theorem dX11_highest_1 : decode cX11_highest 1 = .ok (.istore_n 2, 1) := by decide +kernel
theorem dX11_highest_2 : decode cX11_highest 2 = .ok (.iconst 0, 1) := by decide +kernel
theorem dX11_highest_3 : decode cX11_highest 3 = .ok (.istore_n 3, 1) := by decide +kernel
theorem dX11_highest_4 : decode cX11_highest 4 = .ok (.iload_n 3, 1) := by decide +kernel
theorem dX11_highest_5 : decode cX11_highest 5 = .ok (.iload_n 1, 1) := by decide +kernel
theorem dX11_highest_6 : decode cX11_highest 6 = .ok (.if_icmp .ge 30, 3) := by decide +kernel
theorem dX11_highest_9 : decode cX11_highest 9 = .ok (.aload_n 0, 1) := by decide +kernel
theorem dX11_highest_10 : decode cX11_highest 10 = .ok (.getfield 70, 3) := by decide +kernel
theorem dX11_highest_13 : decode cX11_highest 13 = .ok (.iload_n 3, 1) := by decide +kernel
theorem dX11_highest_14 : decode cX11_highest 14 = .ok (.iaload, 1) := by decide +kernel
theorem dX11_highest_15 : decode cX11_highest 15 = .ok (.iload_n 2, 1) := by decide +kernel
theorem dX11_highest_16 : decode cX11_highest 16 = .ok (.if_icmp .le 12, 3) := by decide +kernel
theorem dX11_highest_19 : decode cX11_highest 19 = .ok (.aload_n 0, 1) := by decide +kernel
theorem dX11_highest_20 : decode cX11_highest 20 = .ok (.getfield 70, 3) := by decide +kernel
theorem dX11_highest_23 : decode cX11_highest 23 = .ok (.iload_n 3, 1) := by decide +kernel
theorem dX11_highest_24 : decode cX11_highest 24 = .ok (.iaload, 1) := by decide +kernel
theorem dX11_highest_25 : decode cX11_highest 25 = .ok (.goto 4, 3) := by decide +kernel
theorem dX11_highest_28 : decode cX11_highest 28 = .ok (.iload_n 2, 1) := by decide +kernel
theorem dX11_highest_29 : decode cX11_highest 29 = .ok (.istore_n 2, 1) := by decide +kernel
theorem dX11_highest_30 : decode cX11_highest 30 = .ok (.iinc 3 1, 3) := by decide +kernel
theorem dX11_highest_33 : decode cX11_highest 33 = .ok (.goto (-29), 3) := by decide +kernel
theorem dX11_highest_36 : decode cX11_highest 36 = .ok (.iload_n 2, 1) := by decide +kernel
theorem dX11_highest_37 : decode cX11_highest 37 = .ok (.ireturn, 1) := by decide +kernel
theorem dX11_nextWay_0 : decode cX11_nextWay 0 = .ok (.aload_n 0, 1) := by decide +kernel
theorem dX11_nextWay_1 : decode cX11_nextWay 1 = .ok (.getfield 169, 3) := by decide +kernel
theorem dX11_nextWay_4 : decode cX11_nextWay 4 = .ok (.iconst 1, 1) := by decide +kernel
theorem dX11_nextWay_5 : decode cX11_nextWay 5 = .ok (.isub, 1) := by decide +kernel
theorem dX11_nextWay_6 : decode cX11_nextWay 6 = .ok (.istore_n 1, 1) := by decide +kernel
theorem dX11_nextWay_7 : decode cX11_nextWay 7 = .ok (.iload_n 1, 1) := by decide +kernel
theorem dX11_nextWay_8 : decode cX11_nextWay 8 = .ok (.ifCond .lt 23, 3) := by decide +kernel
theorem dX11_nextWay_11 : decode cX11_nextWay 11 = .ok (.aload_n 0, 1) := by decide +kernel
theorem dX11_nextWay_12 : decode cX11_nextWay 12 = .ok (.getfield 70, 3) := by decide +kernel
theorem dX11_nextWay_15 : decode cX11_nextWay 15 = .ok (.iload_n 1, 1) := by decide +kernel
theorem dX11_nextWay_16 : decode cX11_nextWay 16 = .ok (.iaload, 1) := by decide +kernel
theorem dX11_nextWay_17 : decode cX11_nextWay 17 = .ok (.aload_n 0, 1) := by decide +kernel
theorem dX11_nextWay_18 : decode cX11_nextWay 18 = .ok (.iload_n 1, 1) := by decide +kernel
theorem dX11_nextWay_19 : decode cX11_nextWay 19 = .ok (.invokevirtual 181, 3) := by decide +kernel
theorem dX11_nextWay_22 : decode cX11_nextWay 22 = .ok (.if_icmp .le 9, 3) := by decide +kernel
theorem dX11_nextWay_25 : decode cX11_nextWay 25 = .ok (.iinc 1 (-1), 3) := by decide +kernel
theorem dX11_nextWay_28 : decode cX11_nextWay 28 = .ok (.goto (-21), 3) := by decide +kernel
theorem dX11_nextWay_31 : decode cX11_nextWay 31 = .ok (.iload_n 1, 1) := by decide +kernel
theorem dX11_nextWay_32 : decode cX11_nextWay 32 = .ok (.ifCond .ge 5, 3) := by decide +kernel
theorem dX11_nextWay_35 : decode cX11_nextWay 35 = .ok (.iconst 0, 1) := by decide +kernel
theorem dX11_nextWay_36 : decode cX11_nextWay 36 = .ok (.ireturn, 1) := by decide +kernel
theorem dX11_nextWay_37 : decode cX11_nextWay 37 = .ok (.aload_n 0, 1) := by decide +kernel
theorem dX11_nextWay_38 : decode cX11_nextWay 38 = .ok (.getfield 70, 3) := by decide +kernel
theorem dX11_nextWay_41 : decode cX11_nextWay 41 = .ok (.iload_n 1, 1) := by decide +kernel
theorem dX11_nextWay_42 : decode cX11_nextWay 42 = .ok (.dup2, 1) := by decide +kernel
theorem dX11_nextWay_43 : decode cX11_nextWay 43 = .ok (.iaload, 1) := by decide +kernel
theorem dX11_nextWay_44 : decode cX11_nextWay 44 = .ok (.iconst 1, 1) := by decide +kernel
theorem dX11_nextWay_45 : decode cX11_nextWay 45 = .ok (.iadd, 1) := by decide +kernel
theorem dX11_nextWay_46 : decode cX11_nextWay 46 = .ok (.iastore, 1) := by decide +kernel
theorem dX11_nextWay_47 : decode cX11_nextWay 47 = .ok (.iload_n 1, 1) := by decide +kernel
theorem dX11_nextWay_48 : decode cX11_nextWay 48 = .ok (.iconst 1, 1) := by decide +kernel
theorem dX11_nextWay_49 : decode cX11_nextWay 49 = .ok (.iadd, 1) := by decide +kernel
theorem dX11_nextWay_50 : decode cX11_nextWay 50 = .ok (.istore_n 2, 1) := by decide +kernel
theorem dX11_nextWay_51 : decode cX11_nextWay 51 = .ok (.iload_n 2, 1) := by decide +kernel
theorem dX11_nextWay_52 : decode cX11_nextWay 52 = .ok (.aload_n 0, 1) := by decide +kernel
theorem dX11_nextWay_53 : decode cX11_nextWay 53 = .ok (.getfield 169, 3) := by decide +kernel
theorem dX11_nextWay_56 : decode cX11_nextWay 56 = .ok (.if_icmp .ge 16, 3) := by decide +kernel
theorem dX11_nextWay_59 : decode cX11_nextWay 59 = .ok (.aload_n 0, 1) := by decide +kernel
theorem dX11_nextWay_60 : decode cX11_nextWay 60 = .ok (.getfield 70, 3) := by decide +kernel
theorem dX11_nextWay_63 : decode cX11_nextWay 63 = .ok (.iload_n 2, 1) := by decide +kernel
theorem dX11_nextWay_64 : decode cX11_nextWay 64 = .ok (.iconst 0, 1) := by decide +kernel
theorem dX11_nextWay_65 : decode cX11_nextWay 65 = .ok (.iastore, 1) := by decide +kernel
theorem dX11_nextWay_66 : decode cX11_nextWay 66 = .ok (.iinc 2 1, 3) := by decide +kernel
theorem dX11_nextWay_69 : decode cX11_nextWay 69 = .ok (.goto (-18), 3) := by decide +kernel
theorem dX11_nextWay_72 : decode cX11_nextWay 72 = .ok (.iconst 1, 1) := by decide +kernel
theorem dX11_nextWay_73 : decode cX11_nextWay 73 = .ok (.ireturn, 1) := by decide +kernel
theorem dX11_share_0 : decode cX11_share 0 = .ok (.aload_n 0, 1) := by decide +kernel
theorem dX11_share_1 : decode cX11_share 1 = .ok (.invokevirtual 155, 3) := by decide +kernel
theorem dX11_share_4 : decode cX11_share 4 = .ok (.iconst 0, 1) := by decide +kernel
theorem dX11_share_5 : decode cX11_share 5 = .ok (.istore_n 1, 1) := by decide +kernel
theorem dX11_share_6 : decode cX11_share 6 = .ok (.iload_n 1, 1) := by decide +kernel
theorem dX11_share_7 : decode cX11_share 7 = .ok (.aload_n 0, 1) := by decide +kernel
theorem dX11_share_8 : decode cX11_share 8 = .ok (.getfield 169, 3) := by decide +kernel
theorem dX11_share_11 : decode cX11_share 11 = .ok (.if_icmp .ge 28, 3) := by decide +kernel
theorem dX11_share_14 : decode cX11_share 14 = .ok (.aload_n 0, 1) := by decide +kernel
theorem dX11_share_15 : decode cX11_share 15 = .ok (.getfield 70, 3) := by decide +kernel
theorem dX11_share_18 : decode cX11_share 18 = .ok (.iload_n 1, 1) := by decide +kernel
theorem dX11_share_19 : decode cX11_share 19 = .ok (.iconst 0, 1) := by decide +kernel
theorem dX11_share_20 : decode cX11_share 20 = .ok (.iastore, 1) := by decide +kernel
theorem dX11_share_21 : decode cX11_share 21 = .ok (.aload_n 0, 1) := by decide +kernel
theorem dX11_share_22 : decode cX11_share 22 = .ok (.iload_n 1, 1) := by decide +kernel
theorem dX11_share_23 : decode cX11_share 23 = .ok (.invokevirtual 178, 3) := by decide +kernel
theorem dX11_share_26 : decode cX11_share 26 = .ok (.bipush (-5), 2) := by decide +kernel
theorem dX11_share_28 : decode cX11_share 28 = .ok (.if_icmp .ne 5, 3) := by decide +kernel
theorem dX11_share_31 : decode cX11_share 31 = .ok (.iconst 0, 1) := by decide +kernel
theorem dX11_share_32 : decode cX11_share 32 = .ok (.ireturn, 1) := by decide +kernel
theorem dX11_share_33 : decode cX11_share 33 = .ok (.iinc 1 1, 3) := by decide +kernel
theorem dX11_share_36 : decode cX11_share 36 = .ok (.goto (-30), 3) := by decide +kernel
theorem dX11_share_39 : decode cX11_share 39 = .ok (.aload_n 0, 1) := by decide +kernel
theorem dX11_share_40 : decode cX11_share 40 = .ok (.bipush (-4), 2) := by decide +kernel
theorem dX11_share_42 : decode cX11_share 42 = .ok (.putfield 184, 3) := by decide +kernel
theorem dX11_share_45 : decode cX11_share 45 = .ok (.iconst 1, 1) := by decide +kernel
theorem dX11_share_46 : decode cX11_share 46 = .ok (.istore_n 1, 1) := by decide +kernel
theorem dX11_share_47 : decode cX11_share 47 = .ok (.iload_n 1, 1) := by decide +kernel
theorem dX11_share_48 : decode cX11_share 48 = .ok (.ifCond .eq 72, 3) := by decide +kernel
theorem dX11_share_51 : decode cX11_share 51 = .ok (.aload_n 0, 1) := by decide +kernel
theorem dX11_share_52 : decode cX11_share 52 = .ok (.invokevirtual 187, 3) := by decide +kernel
theorem dX11_share_55 : decode cX11_share 55 = .ok (.istore_n 2, 1) := by decide +kernel
theorem dX11_share_56 : decode cX11_share 56 = .ok (.iload_n 2, 1) := by decide +kernel
theorem dX11_share_57 : decode cX11_share 57 = .ok (.bipush (-4), 2) := by decide +kernel
theorem dX11_share_59 : decode cX11_share 59 = .ok (.if_icmp .eq 53, 3) := by decide +kernel
theorem dX11_share_62 : decode cX11_share 62 = .ok (.aload_n 0, 1) := by decide +kernel
theorem dX11_share_63 : decode cX11_share 63 = .ok (.getfield 184, 3) := by decide +kernel
theorem dX11_share_66 : decode cX11_share 66 = .ok (.bipush (-4), 2) := by decide +kernel
theorem dX11_share_68 : decode cX11_share 68 = .ok (.if_icmp .eq 11, 3) := by decide +kernel
theorem dX11_share_71 : decode cX11_share 71 = .ok (.iload_n 2, 1) := by decide +kernel
theorem dX11_share_72 : decode cX11_share 72 = .ok (.aload_n 0, 1) := by decide +kernel
theorem dX11_share_73 : decode cX11_share 73 = .ok (.getfield 184, 3) := by decide +kernel
theorem dX11_share_76 : decode cX11_share 76 = .ok (.if_icmp .ge 36, 3) := by decide +kernel
theorem dX11_share_79 : decode cX11_share 79 = .ok (.aload_n 0, 1) := by decide +kernel
theorem dX11_share_80 : decode cX11_share 80 = .ok (.iload_n 2, 1) := by decide +kernel
theorem dX11_share_81 : decode cX11_share 81 = .ok (.putfield 184, 3) := by decide +kernel
theorem dX11_share_84 : decode cX11_share 84 = .ok (.iconst 0, 1) := by decide +kernel
theorem dX11_share_85 : decode cX11_share 85 = .ok (.istore_n 3, 1) := by decide +kernel
theorem dX11_share_86 : decode cX11_share 86 = .ok (.iload_n 3, 1) := by decide +kernel
theorem dX11_share_87 : decode cX11_share 87 = .ok (.aload_n 0, 1) := by decide +kernel
theorem dX11_share_88 : decode cX11_share 88 = .ok (.getfield 169, 3) := by decide +kernel
theorem dX11_share_91 : decode cX11_share 91 = .ok (.if_icmp .ge 21, 3) := by decide +kernel
theorem dX11_share_94 : decode cX11_share 94 = .ok (.aload_n 0, 1) := by decide +kernel
theorem dX11_share_95 : decode cX11_share 95 = .ok (.getfield 73, 3) := by decide +kernel
theorem dX11_share_98 : decode cX11_share 98 = .ok (.iload_n 3, 1) := by decide +kernel
theorem dX11_share_99 : decode cX11_share 99 = .ok (.aload_n 0, 1) := by decide +kernel
theorem dX11_share_100 : decode cX11_share 100 = .ok (.getfield 70, 3) := by decide +kernel
theorem dX11_share_103 : decode cX11_share 103 = .ok (.iload_n 3, 1) := by decide +kernel
theorem dX11_share_104 : decode cX11_share 104 = .ok (.iaload, 1) := by decide +kernel
theorem dX11_share_105 : decode cX11_share 105 = .ok (.iastore, 1) := by decide +kernel
theorem dX11_share_106 : decode cX11_share 106 = .ok (.iinc 3 1, 3) := by decide +kernel
theorem dX11_share_109 : decode cX11_share 109 = .ok (.goto (-23), 3) := by decide +kernel
theorem dX11_share_112 : decode cX11_share 112 = .ok (.aload_n 0, 1) := by decide +kernel
theorem dX11_share_113 : decode cX11_share 113 = .ok (.invokevirtual 191, 3) := by decide +kernel
theorem dX11_share_116 : decode cX11_share 116 = .ok (.istore_n 1, 1) := by decide +kernel
theorem dX11_share_117 : decode cX11_share 117 = .ok (.goto (-70), 3) := by decide +kernel
theorem dX11_share_120 : decode cX11_share 120 = .ok (.iconst 1, 1) := by decide +kernel
theorem dX11_share_121 : decode cX11_share 121 = .ok (.ireturn, 1) := by decide +kernel
theorem dX11_shared_0 : decode cX11_shared 0 = .ok (.aload_n 0, 1) := by decide +kernel
theorem dX11_shared_1 : decode cX11_shared 1 = .ok (.invokevirtual 195, 3) := by decide +kernel
theorem dX11_shared_4 : decode cX11_shared 4 = .ok (.ifCond .eq 10, 3) := by decide +kernel
theorem dX11_shared_7 : decode cX11_shared 7 = .ok (.aload_n 0, 1) := by decide +kernel
theorem dX11_shared_8 : decode cX11_shared 8 = .ok (.getfield 184, 3) := by decide +kernel
theorem dX11_shared_11 : decode cX11_shared 11 = .ok (.goto 5, 3) := by decide +kernel
theorem dX11_shared_14 : decode cX11_shared 14 = .ok (.bipush (-5), 2) := by decide +kernel
theorem dX11_shared_16 : decode cX11_shared 16 = .ok (.ireturn, 1) := by decide +kernel
theorem dX11_group_0 : decode cX11_group 0 = .ok (.aload_n 0, 1) := by decide +kernel
theorem dX11_group_1 : decode cX11_group 1 = .ok (.iload_n 1, 1) := by decide +kernel
theorem dX11_group_2 : decode cX11_group 2 = .ok (.invokevirtual 175, 3) := by decide +kernel
theorem dX11_group_5 : decode cX11_group 5 = .ok (.ifCond .ne 5, 3) := by decide +kernel
theorem dX11_group_8 : decode cX11_group 8 = .ok (.iconst (-1), 1) := by decide +kernel
theorem dX11_group_9 : decode cX11_group 9 = .ok (.ireturn, 1) := by decide +kernel
theorem dX11_group_10 : decode cX11_group 10 = .ok (.aload_n 0, 1) := by decide +kernel
theorem dX11_group_11 : decode cX11_group 11 = .ok (.invokevirtual 195, 3) := by decide +kernel
theorem dX11_group_14 : decode cX11_group 14 = .ok (.ifCond .eq 12, 3) := by decide +kernel
theorem dX11_group_17 : decode cX11_group 17 = .ok (.aload_n 0, 1) := by decide +kernel
theorem dX11_group_18 : decode cX11_group 18 = .ok (.getfield 73, 3) := by decide +kernel
theorem dX11_group_21 : decode cX11_group 21 = .ok (.iload_n 1, 1) := by decide +kernel
theorem dX11_group_22 : decode cX11_group 22 = .ok (.iaload, 1) := by decide +kernel
theorem dX11_group_23 : decode cX11_group 23 = .ok (.goto 5, 3) := by decide +kernel
theorem dX11_group_26 : decode cX11_group 26 = .ok (.bipush (-5), 2) := by decide +kernel
theorem dX11_group_28 : decode cX11_group 28 = .ok (.ireturn, 1) := by decide +kernel
theorem dX11_savesOf_0 : decode cX11_savesOf 0 = .ok (.aload_n 0, 1) := by decide +kernel
theorem dX11_savesOf_1 : decode cX11_savesOf 1 = .ok (.invokevirtual 155, 3) := by decide +kernel
theorem dX11_savesOf_4 : decode cX11_savesOf 4 = .ok (.aload_n 0, 1) := by decide +kernel
theorem dX11_savesOf_5 : decode cX11_savesOf 5 = .ok (.iload_n 1, 1) := by decide +kernel
theorem dX11_savesOf_6 : decode cX11_savesOf 6 = .ok (.invokevirtual 178, 3) := by decide +kernel
theorem dX11_savesOf_9 : decode cX11_savesOf 9 = .ok (.istore_n 3, 1) := by decide +kernel
theorem dX11_savesOf_10 : decode cX11_savesOf 10 = .ok (.iload_n 3, 1) := by decide +kernel
theorem dX11_savesOf_11 : decode cX11_savesOf 11 = .ok (.bipush (-5), 2) := by decide +kernel
theorem dX11_savesOf_13 : decode cX11_savesOf 13 = .ok (.if_icmp .ne 6, 3) := by decide +kernel
theorem dX11_savesOf_16 : decode cX11_savesOf 16 = .ok (.bipush (-5), 2) := by decide +kernel
theorem dX11_savesOf_18 : decode cX11_savesOf 18 = .ok (.ireturn, 1) := by decide +kernel
theorem dX11_savesOf_19 : decode cX11_savesOf 19 = .ok (.aload_n 0, 1) := by decide +kernel
theorem dX11_savesOf_20 : decode cX11_savesOf 20 = .ok (.getfield 7, 3) := by decide +kernel
theorem dX11_savesOf_23 : decode cX11_savesOf 23 = .ok (.iload_n 2, 1) := by decide +kernel
theorem dX11_savesOf_24 : decode cX11_savesOf 24 = .ok (.iaload, 1) := by decide +kernel
theorem dX11_savesOf_25 : decode cX11_savesOf 25 = .ok (.istore 4, 2) := by decide +kernel
theorem dX11_savesOf_27 : decode cX11_savesOf 27 = .ok (.aload_n 0, 1) := by decide +kernel
theorem dX11_savesOf_28 : decode cX11_savesOf 28 = .ok (.getfield 7, 3) := by decide +kernel
theorem dX11_savesOf_31 : decode cX11_savesOf 31 = .ok (.iload_n 2, 1) := by decide +kernel
theorem dX11_savesOf_32 : decode cX11_savesOf 32 = .ok (.iconst 0, 1) := by decide +kernel
theorem dX11_savesOf_33 : decode cX11_savesOf 33 = .ok (.iastore, 1) := by decide +kernel
theorem dX11_savesOf_34 : decode cX11_savesOf 34 = .ok (.aload_n 0, 1) := by decide +kernel
theorem dX11_savesOf_35 : decode cX11_savesOf 35 = .ok (.invokevirtual 155, 3) := by decide +kernel
theorem dX11_savesOf_38 : decode cX11_savesOf 38 = .ok (.aload_n 0, 1) := by decide +kernel
theorem dX11_savesOf_39 : decode cX11_savesOf 39 = .ok (.iload_n 1, 1) := by decide +kernel
theorem dX11_savesOf_40 : decode cX11_savesOf 40 = .ok (.invokevirtual 178, 3) := by decide +kernel
theorem dX11_savesOf_43 : decode cX11_savesOf 43 = .ok (.istore 5, 2) := by decide +kernel
theorem dX11_savesOf_45 : decode cX11_savesOf 45 = .ok (.aload_n 0, 1) := by decide +kernel
theorem dX11_savesOf_46 : decode cX11_savesOf 46 = .ok (.getfield 7, 3) := by decide +kernel
theorem dX11_savesOf_49 : decode cX11_savesOf 49 = .ok (.iload_n 2, 1) := by decide +kernel
theorem dX11_savesOf_50 : decode cX11_savesOf 50 = .ok (.iload 4, 2) := by decide +kernel
theorem dX11_savesOf_52 : decode cX11_savesOf 52 = .ok (.iastore, 1) := by decide +kernel
theorem dX11_savesOf_53 : decode cX11_savesOf 53 = .ok (.iload_n 3, 1) := by decide +kernel
theorem dX11_savesOf_54 : decode cX11_savesOf 54 = .ok (.iload 5, 2) := by decide +kernel
theorem dX11_savesOf_56 : decode cX11_savesOf 56 = .ok (.isub, 1) := by decide +kernel
theorem dX11_savesOf_57 : decode cX11_savesOf 57 = .ok (.ireturn, 1) := by decide +kernel
theorem dX11_saves_0 : decode cX11_saves 0 = .ok (.aload_n 0, 1) := by decide +kernel
theorem dX11_saves_1 : decode cX11_saves 1 = .ok (.iload_n 1, 1) := by decide +kernel
theorem dX11_saves_2 : decode cX11_saves 2 = .ok (.invokevirtual 175, 3) := by decide +kernel
theorem dX11_saves_5 : decode cX11_saves 5 = .ok (.ifCond .eq 20, 3) := by decide +kernel
theorem dX11_saves_8 : decode cX11_saves 8 = .ok (.aload_n 0, 1) := by decide +kernel
theorem dX11_saves_9 : decode cX11_saves 9 = .ok (.iload_n 2, 1) := by decide +kernel
theorem dX11_saves_10 : decode cX11_saves 10 = .ok (.invokevirtual 103, 3) := by decide +kernel
theorem dX11_saves_13 : decode cX11_saves 13 = .ok (.ifCond .eq 12, 3) := by decide +kernel
theorem dX11_saves_16 : decode cX11_saves 16 = .ok (.aload_n 0, 1) := by decide +kernel
theorem dX11_saves_17 : decode cX11_saves 17 = .ok (.iload_n 1, 1) := by decide +kernel
theorem dX11_saves_18 : decode cX11_saves 18 = .ok (.iload_n 2, 1) := by decide +kernel
theorem dX11_saves_19 : decode cX11_saves 19 = .ok (.invokevirtual 198, 3) := by decide +kernel
theorem dX11_saves_22 : decode cX11_saves 22 = .ok (.goto 4, 3) := by decide +kernel
theorem dX11_saves_25 : decode cX11_saves 25 = .ok (.iconst (-1), 1) := by decide +kernel
theorem dX11_saves_26 : decode cX11_saves 26 = .ok (.ireturn, 1) := by decide +kernel
theorem dX11_best_0 : decode cX11_best 0 = .ok (.aload_n 0, 1) := by decide +kernel
theorem dX11_best_1 : decode cX11_best 1 = .ok (.iload_n 1, 1) := by decide +kernel
theorem dX11_best_2 : decode cX11_best 2 = .ok (.invokevirtual 175, 3) := by decide +kernel
theorem dX11_best_5 : decode cX11_best 5 = .ok (.ifCond .ne 5, 3) := by decide +kernel
theorem dX11_best_8 : decode cX11_best 8 = .ok (.iconst (-1), 1) := by decide +kernel
theorem dX11_best_9 : decode cX11_best 9 = .ok (.ireturn, 1) := by decide +kernel
theorem dX11_best_10 : decode cX11_best 10 = .ok (.bipush (-4), 2) := by decide +kernel
theorem dX11_best_12 : decode cX11_best 12 = .ok (.istore_n 2, 1) := by decide +kernel
theorem dX11_best_13 : decode cX11_best 13 = .ok (.iconst 0, 1) := by decide +kernel
theorem dX11_best_14 : decode cX11_best 14 = .ok (.istore_n 3, 1) := by decide +kernel
theorem dX11_best_15 : decode cX11_best 15 = .ok (.iconst 0, 1) := by decide +kernel
theorem dX11_best_16 : decode cX11_best 16 = .ok (.istore 4, 2) := by decide +kernel
theorem dX11_best_18 : decode cX11_best 18 = .ok (.iload 4, 2) := by decide +kernel
theorem dX11_best_20 : decode cX11_best 20 = .ok (.aload_n 0, 1) := by decide +kernel
theorem dX11_best_21 : decode cX11_best 21 = .ok (.getfield 91, 3) := by decide +kernel
theorem dX11_best_24 : decode cX11_best 24 = .ok (.if_icmp .ge 40, 3) := by decide +kernel
theorem dX11_best_27 : decode cX11_best 27 = .ok (.aload_n 0, 1) := by decide +kernel
theorem dX11_best_28 : decode cX11_best 28 = .ok (.iload_n 1, 1) := by decide +kernel
theorem dX11_best_29 : decode cX11_best 29 = .ok (.iload 4, 2) := by decide +kernel
theorem dX11_best_31 : decode cX11_best 31 = .ok (.invokevirtual 198, 3) := by decide +kernel
theorem dX11_best_34 : decode cX11_best 34 = .ok (.istore 5, 2) := by decide +kernel
theorem dX11_best_36 : decode cX11_best 36 = .ok (.iload 5, 2) := by decide +kernel
theorem dX11_best_38 : decode cX11_best 38 = .ok (.bipush (-5), 2) := by decide +kernel
theorem dX11_best_40 : decode cX11_best 40 = .ok (.if_icmp .ne 6, 3) := by decide +kernel
theorem dX11_best_43 : decode cX11_best 43 = .ok (.bipush (-5), 2) := by decide +kernel
theorem dX11_best_45 : decode cX11_best 45 = .ok (.ireturn, 1) := by decide +kernel
theorem dX11_best_46 : decode cX11_best 46 = .ok (.iload 5, 2) := by decide +kernel
theorem dX11_best_48 : decode cX11_best 48 = .ok (.iload_n 3, 1) := by decide +kernel
theorem dX11_best_49 : decode cX11_best 49 = .ok (.if_icmp .le 9, 3) := by decide +kernel
theorem dX11_best_52 : decode cX11_best 52 = .ok (.iload 5, 2) := by decide +kernel
theorem dX11_best_54 : decode cX11_best 54 = .ok (.istore_n 3, 1) := by decide +kernel
theorem dX11_best_55 : decode cX11_best 55 = .ok (.iload 4, 2) := by decide +kernel
theorem dX11_best_57 : decode cX11_best 57 = .ok (.istore_n 2, 1) := by decide +kernel
theorem dX11_best_58 : decode cX11_best 58 = .ok (.iinc 4 1, 3) := by decide +kernel
theorem dX11_best_61 : decode cX11_best 61 = .ok (.goto (-43), 3) := by decide +kernel
theorem dX11_best_64 : decode cX11_best 64 = .ok (.iload_n 2, 1) := by decide +kernel
theorem dX11_best_65 : decode cX11_best 65 = .ok (.ireturn, 1) := by decide +kernel
theorem dX11_put_0 : decode cX11_put 0 = .ok (.aload_n 0, 1) := by decide +kernel
theorem dX11_put_1 : decode cX11_put 1 = .ok (.getfield 76, 3) := by decide +kernel
theorem dX11_put_4 : decode cX11_put 4 = .ok (.aload_n 0, 1) := by decide +kernel
theorem dX11_put_5 : decode cX11_put 5 = .ok (.getfield 202, 3) := by decide +kernel
theorem dX11_put_8 : decode cX11_put 8 = .ok (.iload_n 1, 1) := by decide +kernel
theorem dX11_put_9 : decode cX11_put 9 = .ok (.iastore, 1) := by decide +kernel
theorem dX11_put_10 : decode cX11_put 10 = .ok (.aload_n 0, 1) := by decide +kernel
theorem dX11_put_11 : decode cX11_put 11 = .ok (.getfield 79, 3) := by decide +kernel
theorem dX11_put_14 : decode cX11_put 14 = .ok (.aload_n 0, 1) := by decide +kernel
theorem dX11_put_15 : decode cX11_put 15 = .ok (.getfield 202, 3) := by decide +kernel
theorem dX11_put_18 : decode cX11_put 18 = .ok (.aload_n 0, 1) := by decide +kernel
theorem dX11_put_19 : decode cX11_put 19 = .ok (.getfield 7, 3) := by decide +kernel
theorem dX11_put_22 : decode cX11_put 22 = .ok (.iload_n 1, 1) := by decide +kernel
theorem dX11_put_23 : decode cX11_put 23 = .ok (.iaload, 1) := by decide +kernel
theorem dX11_put_24 : decode cX11_put 24 = .ok (.iastore, 1) := by decide +kernel
theorem dX11_put_25 : decode cX11_put 25 = .ok (.aload_n 0, 1) := by decide +kernel
theorem dX11_put_26 : decode cX11_put 26 = .ok (.dup, 1) := by decide +kernel
theorem dX11_put_27 : decode cX11_put 27 = .ok (.getfield 205, 3) := by decide +kernel
theorem dX11_put_30 : decode cX11_put 30 = .ok (.aload_n 0, 1) := by decide +kernel
theorem dX11_put_31 : decode cX11_put 31 = .ok (.getfield 7, 3) := by decide +kernel
theorem dX11_put_34 : decode cX11_put 34 = .ok (.iload_n 1, 1) := by decide +kernel
theorem dX11_put_35 : decode cX11_put 35 = .ok (.iaload, 1) := by decide +kernel
theorem dX11_put_36 : decode cX11_put 36 = .ok (.iadd, 1) := by decide +kernel
theorem dX11_put_37 : decode cX11_put 37 = .ok (.putfield 205, 3) := by decide +kernel
theorem dX11_put_40 : decode cX11_put 40 = .ok (.aload_n 0, 1) := by decide +kernel
theorem dX11_put_41 : decode cX11_put 41 = .ok (.dup, 1) := by decide +kernel
theorem dX11_put_42 : decode cX11_put 42 = .ok (.getfield 202, 3) := by decide +kernel
theorem dX11_put_45 : decode cX11_put 45 = .ok (.iconst 1, 1) := by decide +kernel
theorem dX11_put_46 : decode cX11_put 46 = .ok (.iadd, 1) := by decide +kernel
theorem dX11_put_47 : decode cX11_put 47 = .ok (.putfield 202, 3) := by decide +kernel
theorem dX11_put_50 : decode cX11_put 50 = .ok (.aload_n 0, 1) := by decide +kernel
theorem dX11_put_51 : decode cX11_put 51 = .ok (.aload_n 0, 1) := by decide +kernel
theorem dX11_put_52 : decode cX11_put 52 = .ok (.getfield 205, 3) := by decide +kernel
theorem dX11_put_55 : decode cX11_put 55 = .ok (.aload_n 0, 1) := by decide +kernel
theorem dX11_put_56 : decode cX11_put 56 = .ok (.getfield 208, 3) := by decide +kernel
theorem dX11_put_59 : decode cX11_put 59 = .ok (.if_icmp .le 10, 3) := by decide +kernel
theorem dX11_put_62 : decode cX11_put 62 = .ok (.aload_n 0, 1) := by decide +kernel
theorem dX11_put_63 : decode cX11_put 63 = .ok (.getfield 205, 3) := by decide +kernel
theorem dX11_put_66 : decode cX11_put 66 = .ok (.goto 7, 3) := by decide +kernel
theorem dX11_put_69 : decode cX11_put 69 = .ok (.aload_n 0, 1) := by decide +kernel
theorem dX11_put_70 : decode cX11_put 70 = .ok (.getfield 208, 3) := by decide +kernel
theorem dX11_put_73 : decode cX11_put 73 = .ok (.putfield 208, 3) := by decide +kernel
theorem dX11_put_76 : decode cX11_put 76 = .ok (.iconst 0, 1) := by decide +kernel
theorem dX11_put_77 : decode cX11_put 77 = .ok (.istore_n 2, 1) := by decide +kernel
theorem dX11_put_78 : decode cX11_put 78 = .ok (.iconst 0, 1) := by decide +kernel
theorem dX11_put_79 : decode cX11_put 79 = .ok (.istore_n 3, 1) := by decide +kernel
theorem dX11_put_80 : decode cX11_put 80 = .ok (.iload_n 3, 1) := by decide +kernel
theorem dX11_put_81 : decode cX11_put 81 = .ok (.aload_n 0, 1) := by decide +kernel
theorem dX11_put_82 : decode cX11_put 82 = .ok (.getfield 202, 3) := by decide +kernel
theorem dX11_put_85 : decode cX11_put 85 = .ok (.if_icmp .ge 27, 3) := by decide +kernel
theorem dX11_put_88 : decode cX11_put 88 = .ok (.iload_n 2, 1) := by decide +kernel
theorem dX11_put_89 : decode cX11_put 89 = .ok (.aload_n 0, 1) := by decide +kernel
theorem dX11_put_90 : decode cX11_put 90 = .ok (.getfield 76, 3) := by decide +kernel
theorem dX11_put_93 : decode cX11_put 93 = .ok (.iload_n 3, 1) := by decide +kernel
theorem dX11_put_94 : decode cX11_put 94 = .ok (.iaload, 1) := by decide +kernel
theorem dX11_put_95 : decode cX11_put 95 = .ok (.iload_n 1, 1) := by decide +kernel
theorem dX11_put_96 : decode cX11_put 96 = .ok (.if_icmp .ne 7, 3) := by decide +kernel
theorem dX11_put_99 : decode cX11_put 99 = .ok (.iconst 1, 1) := by decide +kernel
theorem dX11_put_100 : decode cX11_put 100 = .ok (.goto 4, 3) := by decide +kernel
theorem dX11_put_103 : decode cX11_put 103 = .ok (.iconst 0, 1) := by decide +kernel
theorem dX11_put_104 : decode cX11_put 104 = .ok (.iadd, 1) := by decide +kernel
theorem dX11_put_105 : decode cX11_put 105 = .ok (.istore_n 2, 1) := by decide +kernel
theorem dX11_put_106 : decode cX11_put 106 = .ok (.iinc 3 1, 3) := by decide +kernel
theorem dX11_put_109 : decode cX11_put 109 = .ok (.goto (-29), 3) := by decide +kernel
theorem dX11_put_112 : decode cX11_put 112 = .ok (.aload_n 0, 1) := by decide +kernel
theorem dX11_put_113 : decode cX11_put 113 = .ok (.dup, 1) := by decide +kernel
theorem dX11_put_114 : decode cX11_put 114 = .ok (.getfield 211, 3) := by decide +kernel
theorem dX11_put_117 : decode cX11_put 117 = .ok (.aload_n 0, 1) := by decide +kernel
theorem dX11_put_118 : decode cX11_put 118 = .ok (.getfield 13, 3) := by decide +kernel
theorem dX11_put_121 : decode cX11_put 121 = .ok (.iload_n 1, 1) := by decide +kernel
theorem dX11_put_122 : decode cX11_put 122 = .ok (.iaload, 1) := by decide +kernel
theorem dX11_put_123 : decode cX11_put 123 = .ok (.ifCond .le 17, 3) := by decide +kernel
theorem dX11_put_126 : decode cX11_put 126 = .ok (.iload_n 2, 1) := by decide +kernel
theorem dX11_put_127 : decode cX11_put 127 = .ok (.aload_n 0, 1) := by decide +kernel
theorem dX11_put_128 : decode cX11_put 128 = .ok (.getfield 13, 3) := by decide +kernel
theorem dX11_put_131 : decode cX11_put 131 = .ok (.iload_n 1, 1) := by decide +kernel
theorem dX11_put_132 : decode cX11_put 132 = .ok (.iaload, 1) := by decide +kernel
theorem dX11_put_133 : decode cX11_put 133 = .ok (.if_icmp .le 7, 3) := by decide +kernel
theorem dX11_put_136 : decode cX11_put 136 = .ok (.iconst 1, 1) := by decide +kernel
theorem dX11_put_137 : decode cX11_put 137 = .ok (.goto 4, 3) := by decide +kernel
theorem dX11_put_140 : decode cX11_put 140 = .ok (.iconst 0, 1) := by decide +kernel
theorem dX11_put_141 : decode cX11_put 141 = .ok (.iadd, 1) := by decide +kernel
theorem dX11_put_142 : decode cX11_put 142 = .ok (.putfield 211, 3) := by decide +kernel
theorem dX11_put_145 : decode cX11_put 145 = .ok (.return_, 1) := by decide +kernel
theorem dX11_pull_0 : decode cX11_pull 0 = .ok (.aload_n 0, 1) := by decide +kernel
theorem dX11_pull_1 : decode cX11_pull 1 = .ok (.dup, 1) := by decide +kernel
theorem dX11_pull_2 : decode cX11_pull 2 = .ok (.getfield 202, 3) := by decide +kernel
theorem dX11_pull_5 : decode cX11_pull 5 = .ok (.iconst 1, 1) := by decide +kernel
theorem dX11_pull_6 : decode cX11_pull 6 = .ok (.isub, 1) := by decide +kernel
theorem dX11_pull_7 : decode cX11_pull 7 = .ok (.putfield 202, 3) := by decide +kernel
theorem dX11_pull_10 : decode cX11_pull 10 = .ok (.aload_n 0, 1) := by decide +kernel
theorem dX11_pull_11 : decode cX11_pull 11 = .ok (.dup, 1) := by decide +kernel
theorem dX11_pull_12 : decode cX11_pull 12 = .ok (.getfield 205, 3) := by decide +kernel
theorem dX11_pull_15 : decode cX11_pull 15 = .ok (.aload_n 0, 1) := by decide +kernel
theorem dX11_pull_16 : decode cX11_pull 16 = .ok (.getfield 79, 3) := by decide +kernel
theorem dX11_pull_19 : decode cX11_pull 19 = .ok (.aload_n 0, 1) := by decide +kernel
theorem dX11_pull_20 : decode cX11_pull 20 = .ok (.getfield 202, 3) := by decide +kernel
theorem dX11_pull_23 : decode cX11_pull 23 = .ok (.iaload, 1) := by decide +kernel
theorem dX11_pull_24 : decode cX11_pull 24 = .ok (.isub, 1) := by decide +kernel
theorem dX11_pull_25 : decode cX11_pull 25 = .ok (.putfield 205, 3) := by decide +kernel
theorem dX11_pull_28 : decode cX11_pull 28 = .ok (.return_, 1) := by decide +kernel
theorem dX11_run_0 : decode cX11_run 0 = .ok (.aload_n 0, 1) := by decide +kernel
theorem dX11_run_1 : decode cX11_run 1 = .ok (.iload_n 1, 1) := by decide +kernel
theorem dX11_run_2 : decode cX11_run 2 = .ok (.invokevirtual 103, 3) := by decide +kernel
theorem dX11_run_5 : decode cX11_run 5 = .ok (.ifCond .ne 5, 3) := by decide +kernel
theorem dX11_run_8 : decode cX11_run 8 = .ok (.iconst (-1), 1) := by decide +kernel
theorem dX11_run_9 : decode cX11_run 9 = .ok (.ireturn, 1) := by decide +kernel
theorem dX11_run_10 : decode cX11_run 10 = .ok (.aload_n 0, 1) := by decide +kernel
theorem dX11_run_11 : decode cX11_run 11 = .ok (.iconst 1, 1) := by decide +kernel
theorem dX11_run_12 : decode cX11_run 12 = .ok (.putfield 214, 3) := by decide +kernel
theorem dX11_run_15 : decode cX11_run 15 = .ok (.aload_n 0, 1) := by decide +kernel
theorem dX11_run_16 : decode cX11_run 16 = .ok (.iconst 0, 1) := by decide +kernel
theorem dX11_run_17 : decode cX11_run 17 = .ok (.putfield 202, 3) := by decide +kernel
theorem dX11_run_20 : decode cX11_run 20 = .ok (.aload_n 0, 1) := by decide +kernel
theorem dX11_run_21 : decode cX11_run 21 = .ok (.iconst 0, 1) := by decide +kernel
theorem dX11_run_22 : decode cX11_run 22 = .ok (.putfield 205, 3) := by decide +kernel
theorem dX11_run_25 : decode cX11_run 25 = .ok (.aload_n 0, 1) := by decide +kernel
theorem dX11_run_26 : decode cX11_run 26 = .ok (.iconst 0, 1) := by decide +kernel
theorem dX11_run_27 : decode cX11_run 27 = .ok (.putfield 208, 3) := by decide +kernel
theorem dX11_run_30 : decode cX11_run 30 = .ok (.aload_n 0, 1) := by decide +kernel
theorem dX11_run_31 : decode cX11_run 31 = .ok (.iconst 0, 1) := by decide +kernel
theorem dX11_run_32 : decode cX11_run 32 = .ok (.putfield 218, 3) := by decide +kernel
theorem dX11_run_35 : decode cX11_run 35 = .ok (.aload_n 0, 1) := by decide +kernel
theorem dX11_run_36 : decode cX11_run 36 = .ok (.iconst 0, 1) := by decide +kernel
theorem dX11_run_37 : decode cX11_run 37 = .ok (.putfield 211, 3) := by decide +kernel
theorem dX11_run_40 : decode cX11_run 40 = .ok (.aload_n 0, 1) := by decide +kernel
theorem dX11_run_41 : decode cX11_run 41 = .ok (.iload_n 1, 1) := by decide +kernel
theorem dX11_run_42 : decode cX11_run 42 = .ok (.putfield 221, 3) := by decide +kernel
theorem dX11_run_45 : decode cX11_run 45 = .ok (.aload_n 0, 1) := by decide +kernel
theorem dX11_run_46 : decode cX11_run 46 = .ok (.iload_n 1, 1) := by decide +kernel
theorem dX11_run_47 : decode cX11_run 47 = .ok (.invokevirtual 224, 3) := by decide +kernel
theorem dX11_run_50 : decode cX11_run 50 = .ok (.aload_n 0, 1) := by decide +kernel
theorem dX11_run_51 : decode cX11_run 51 = .ok (.getfield 205, 3) := by decide +kernel
theorem dX11_run_54 : decode cX11_run 54 = .ok (.ireturn, 1) := by decide +kernel
theorem dX11_enter_0 : decode cX11_enter 0 = .ok (.aload_n 0, 1) := by decide +kernel
theorem dX11_enter_1 : decode cX11_enter 1 = .ok (.iload_n 1, 1) := by decide +kernel
theorem dX11_enter_2 : decode cX11_enter 2 = .ok (.invokevirtual 103, 3) := by decide +kernel
theorem dX11_enter_5 : decode cX11_enter 5 = .ok (.ifCond .ne 5, 3) := by decide +kernel
theorem dX11_enter_8 : decode cX11_enter 8 = .ok (.iconst (-1), 1) := by decide +kernel
theorem dX11_enter_9 : decode cX11_enter 9 = .ok (.ireturn, 1) := by decide +kernel
theorem dX11_enter_10 : decode cX11_enter 10 = .ok (.aload_n 0, 1) := by decide +kernel
theorem dX11_enter_11 : decode cX11_enter 11 = .ok (.getfield 202, 3) := by decide +kernel
theorem dX11_enter_14 : decode cX11_enter 14 = .ok (.ifCond .ne 6, 3) := by decide +kernel
theorem dX11_enter_17 : decode cX11_enter 17 = .ok (.bipush (-2), 2) := by decide +kernel
theorem dX11_enter_19 : decode cX11_enter 19 = .ok (.ireturn, 1) := by decide +kernel
theorem dX11_enter_20 : decode cX11_enter 20 = .ok (.aload_n 0, 1) := by decide +kernel
theorem dX11_enter_21 : decode cX11_enter 21 = .ok (.getfield 202, 3) := by decide +kernel
theorem dX11_enter_24 : decode cX11_enter 24 = .ok (.bipush 40, 2) := by decide +kernel
theorem dX11_enter_26 : decode cX11_enter 26 = .ok (.if_icmp .ne 6, 3) := by decide +kernel
theorem dX11_enter_29 : decode cX11_enter 29 = .ok (.bipush (-3), 2) := by decide +kernel
theorem dX11_enter_31 : decode cX11_enter 31 = .ok (.ireturn, 1) := by decide +kernel
theorem dX11_enter_32 : decode cX11_enter 32 = .ok (.aload_n 0, 1) := by decide +kernel
theorem dX11_enter_33 : decode cX11_enter 33 = .ok (.invokevirtual 133, 3) := by decide +kernel
theorem dX11_enter_36 : decode cX11_enter 36 = .ok (.aload_n 0, 1) := by decide +kernel
theorem dX11_enter_37 : decode cX11_enter 37 = .ok (.dup, 1) := by decide +kernel
theorem dX11_enter_38 : decode cX11_enter 38 = .ok (.getfield 218, 3) := by decide +kernel
theorem dX11_enter_41 : decode cX11_enter 41 = .ok (.aload_n 0, 1) := by decide +kernel
theorem dX11_enter_42 : decode cX11_enter 42 = .ok (.getfield 34, 3) := by decide +kernel
theorem dX11_enter_45 : decode cX11_enter 45 = .ok (.aload_n 0, 1) := by decide +kernel
theorem dX11_enter_46 : decode cX11_enter 46 = .ok (.getfield 76, 3) := by decide +kernel
theorem dX11_enter_49 : decode cX11_enter 49 = .ok (.aload_n 0, 1) := by decide +kernel
theorem dX11_enter_50 : decode cX11_enter 50 = .ok (.getfield 202, 3) := by decide +kernel
theorem dX11_enter_53 : decode cX11_enter 53 = .ok (.iconst 1, 1) := by decide +kernel
theorem dX11_enter_54 : decode cX11_enter 54 = .ok (.isub, 1) := by decide +kernel
theorem dX11_enter_55 : decode cX11_enter 55 = .ok (.iaload, 1) := by decide +kernel
theorem dX11_enter_56 : decode cX11_enter 56 = .ok (.iaload, 1) := by decide +kernel
theorem dX11_enter_57 : decode cX11_enter 57 = .ok (.iload_n 1, 1) := by decide +kernel
theorem dX11_enter_58 : decode cX11_enter 58 = .ok (.ishr, 1) := by decide +kernel
theorem dX11_enter_59 : decode cX11_enter 59 = .ok (.iconst 1, 1) := by decide +kernel
theorem dX11_enter_60 : decode cX11_enter 60 = .ok (.iand, 1) := by decide +kernel
theorem dX11_enter_61 : decode cX11_enter 61 = .ok (.iconst 1, 1) := by decide +kernel
theorem dX11_enter_62 : decode cX11_enter 62 = .ok (.if_icmp .ne 7, 3) := by decide +kernel
theorem dX11_enter_65 : decode cX11_enter 65 = .ok (.iconst 0, 1) := by decide +kernel
theorem dX11_enter_66 : decode cX11_enter 66 = .ok (.goto 4, 3) := by decide +kernel
theorem dX11_enter_69 : decode cX11_enter 69 = .ok (.iconst 1, 1) := by decide +kernel
theorem dX11_enter_70 : decode cX11_enter 70 = .ok (.iadd, 1) := by decide +kernel
theorem dX11_enter_71 : decode cX11_enter 71 = .ok (.putfield 218, 3) := by decide +kernel
theorem dX11_enter_74 : decode cX11_enter 74 = .ok (.aload_n 0, 1) := by decide +kernel
theorem dX11_enter_75 : decode cX11_enter 75 = .ok (.iload_n 1, 1) := by decide +kernel
theorem dX11_enter_76 : decode cX11_enter 76 = .ok (.invokevirtual 224, 3) := by decide +kernel
theorem dX11_enter_79 : decode cX11_enter 79 = .ok (.aload_n 0, 1) := by decide +kernel
theorem dX11_enter_80 : decode cX11_enter 80 = .ok (.getfield 205, 3) := by decide +kernel
theorem dX11_enter_83 : decode cX11_enter 83 = .ok (.ireturn, 1) := by decide +kernel
theorem dX11_over_0 : decode cX11_over 0 = .ok (.aload_n 0, 1) := by decide +kernel
theorem dX11_over_1 : decode cX11_over 1 = .ok (.iload_n 1, 1) := by decide +kernel
theorem dX11_over_2 : decode cX11_over 2 = .ok (.invokevirtual 103, 3) := by decide +kernel
theorem dX11_over_5 : decode cX11_over 5 = .ok (.ifCond .ne 5, 3) := by decide +kernel
theorem dX11_over_8 : decode cX11_over 8 = .ok (.iconst (-1), 1) := by decide +kernel
theorem dX11_over_9 : decode cX11_over 9 = .ok (.ireturn, 1) := by decide +kernel
theorem dX11_over_10 : decode cX11_over 10 = .ok (.aload_n 0, 1) := by decide +kernel
theorem dX11_over_11 : decode cX11_over 11 = .ok (.getfield 202, 3) := by decide +kernel
theorem dX11_over_14 : decode cX11_over 14 = .ok (.ifCond .ne 6, 3) := by decide +kernel
theorem dX11_over_17 : decode cX11_over 17 = .ok (.bipush (-2), 2) := by decide +kernel
theorem dX11_over_19 : decode cX11_over 19 = .ok (.ireturn, 1) := by decide +kernel
theorem dX11_over_20 : decode cX11_over 20 = .ok (.aload_n 0, 1) := by decide +kernel
theorem dX11_over_21 : decode cX11_over 21 = .ok (.invokevirtual 133, 3) := by decide +kernel
theorem dX11_over_24 : decode cX11_over 24 = .ok (.aload_n 0, 1) := by decide +kernel
theorem dX11_over_25 : decode cX11_over 25 = .ok (.dup, 1) := by decide +kernel
theorem dX11_over_26 : decode cX11_over 26 = .ok (.getfield 218, 3) := by decide +kernel
theorem dX11_over_29 : decode cX11_over 29 = .ok (.aload_n 0, 1) := by decide +kernel
theorem dX11_over_30 : decode cX11_over 30 = .ok (.getfield 37, 3) := by decide +kernel
theorem dX11_over_33 : decode cX11_over 33 = .ok (.aload_n 0, 1) := by decide +kernel
theorem dX11_over_34 : decode cX11_over 34 = .ok (.getfield 76, 3) := by decide +kernel
theorem dX11_over_37 : decode cX11_over 37 = .ok (.aload_n 0, 1) := by decide +kernel
theorem dX11_over_38 : decode cX11_over 38 = .ok (.getfield 202, 3) := by decide +kernel
theorem dX11_over_41 : decode cX11_over 41 = .ok (.iconst 1, 1) := by decide +kernel
theorem dX11_over_42 : decode cX11_over 42 = .ok (.isub, 1) := by decide +kernel
theorem dX11_over_43 : decode cX11_over 43 = .ok (.iaload, 1) := by decide +kernel
theorem dX11_over_44 : decode cX11_over 44 = .ok (.iaload, 1) := by decide +kernel
theorem dX11_over_45 : decode cX11_over 45 = .ok (.iload_n 1, 1) := by decide +kernel
theorem dX11_over_46 : decode cX11_over 46 = .ok (.ishr, 1) := by decide +kernel
theorem dX11_over_47 : decode cX11_over 47 = .ok (.iconst 1, 1) := by decide +kernel
theorem dX11_over_48 : decode cX11_over 48 = .ok (.iand, 1) := by decide +kernel
theorem dX11_over_49 : decode cX11_over 49 = .ok (.iconst 1, 1) := by decide +kernel
theorem dX11_over_50 : decode cX11_over 50 = .ok (.if_icmp .ne 7, 3) := by decide +kernel
theorem dX11_over_53 : decode cX11_over 53 = .ok (.iconst 0, 1) := by decide +kernel
theorem dX11_over_54 : decode cX11_over 54 = .ok (.goto 4, 3) := by decide +kernel
theorem dX11_over_57 : decode cX11_over 57 = .ok (.iconst 1, 1) := by decide +kernel
theorem dX11_over_58 : decode cX11_over 58 = .ok (.iadd, 1) := by decide +kernel
theorem dX11_over_59 : decode cX11_over 59 = .ok (.putfield 218, 3) := by decide +kernel
theorem dX11_over_62 : decode cX11_over 62 = .ok (.aload_n 0, 1) := by decide +kernel
theorem dX11_over_63 : decode cX11_over 63 = .ok (.invokevirtual 228, 3) := by decide +kernel
theorem dX11_over_66 : decode cX11_over 66 = .ok (.aload_n 0, 1) := by decide +kernel
theorem dX11_over_67 : decode cX11_over 67 = .ok (.iload_n 1, 1) := by decide +kernel
theorem dX11_over_68 : decode cX11_over 68 = .ok (.invokevirtual 224, 3) := by decide +kernel
theorem dX11_over_71 : decode cX11_over 71 = .ok (.aload_n 0, 1) := by decide +kernel
theorem dX11_over_72 : decode cX11_over 72 = .ok (.getfield 205, 3) := by decide +kernel
theorem dX11_over_75 : decode cX11_over 75 = .ok (.ireturn, 1) := by decide +kernel
theorem dX11_leave_0 : decode cX11_leave 0 = .ok (.aload_n 0, 1) := by decide +kernel
theorem dX11_leave_1 : decode cX11_leave 1 = .ok (.getfield 202, 3) := by decide +kernel
theorem dX11_leave_4 : decode cX11_leave 4 = .ok (.ifCond .ne 6, 3) := by decide +kernel
theorem dX11_leave_7 : decode cX11_leave 7 = .ok (.bipush (-2), 2) := by decide +kernel
theorem dX11_leave_9 : decode cX11_leave 9 = .ok (.ireturn, 1) := by decide +kernel
theorem dX11_leave_10 : decode cX11_leave 10 = .ok (.aload_n 0, 1) := by decide +kernel
theorem dX11_leave_11 : decode cX11_leave 11 = .ok (.invokevirtual 228, 3) := by decide +kernel
theorem dX11_leave_14 : decode cX11_leave 14 = .ok (.aload_n 0, 1) := by decide +kernel
theorem dX11_leave_15 : decode cX11_leave 15 = .ok (.getfield 205, 3) := by decide +kernel
theorem dX11_leave_18 : decode cX11_leave 18 = .ok (.ireturn, 1) := by decide +kernel
theorem dX11_ran_0 : decode cX11_ran 0 = .ok (.iload_n 1, 1) := by decide +kernel
theorem dX11_ran_1 : decode cX11_ran 1 = .ok (.i2l, 1) := by decide +kernel
theorem dX11_ran_2 : decode cX11_ran 2 = .ok (.lconst 0, 1) := by decide +kernel
theorem dX11_ran_3 : decode cX11_ran 3 = .ok (.ldc2_w 231, 3) := by decide +kernel
theorem dX11_ran_6 : decode cX11_ran 6 = .ok (.invokestatic 95, 3) := by decide +kernel
theorem dX11_ran_9 : decode cX11_ran 9 = .ok (.ifCond .ne 5, 3) := by decide +kernel
theorem dX11_ran_12 : decode cX11_ran 12 = .ok (.iconst (-1), 1) := by decide +kernel
theorem dX11_ran_13 : decode cX11_ran 13 = .ok (.ireturn, 1) := by decide +kernel
theorem dX11_ran_14 : decode cX11_ran 14 = .ok (.aload_n 0, 1) := by decide +kernel
theorem dX11_ran_15 : decode cX11_ran 15 = .ok (.getfield 214, 3) := by decide +kernel
theorem dX11_ran_18 : decode cX11_ran 18 = .ok (.ifCond .ne 6, 3) := by decide +kernel
theorem dX11_ran_21 : decode cX11_ran 21 = .ok (.bipush (-2), 2) := by decide +kernel
theorem dX11_ran_23 : decode cX11_ran 23 = .ok (.ireturn, 1) := by decide +kernel
theorem dX11_ran_24 : decode cX11_ran 24 = .ok (.aload_n 0, 1) := by decide +kernel
theorem dX11_ran_25 : decode cX11_ran 25 = .ok (.invokevirtual 155, 3) := by decide +kernel
theorem dX11_ran_28 : decode cX11_ran 28 = .ok (.aload_n 0, 1) := by decide +kernel
theorem dX11_ran_29 : decode cX11_ran 29 = .ok (.getfield 46, 3) := by decide +kernel
theorem dX11_ran_32 : decode cX11_ran 32 = .ok (.aload_n 0, 1) := by decide +kernel
theorem dX11_ran_33 : decode cX11_ran 33 = .ok (.getfield 221, 3) := by decide +kernel
theorem dX11_ran_36 : decode cX11_ran 36 = .ok (.iaload, 1) := by decide +kernel
theorem dX11_ran_37 : decode cX11_ran 37 = .ok (.istore_n 2, 1) := by decide +kernel
theorem dX11_ran_38 : decode cX11_ran 38 = .ok (.iload_n 1, 1) := by decide +kernel
theorem dX11_ran_39 : decode cX11_ran 39 = .ok (.tableswitch 86 0 5 #[37, 42, 47, 52, 57, 62], 37) := by decide +kernel
theorem dX11_ran_76 : decode cX11_ran 76 = .ok (.aload_n 0, 1) := by decide +kernel
theorem dX11_ran_77 : decode cX11_ran 77 = .ok (.getfield 205, 3) := by decide +kernel
theorem dX11_ran_80 : decode cX11_ran 80 = .ok (.ireturn, 1) := by decide +kernel
theorem dX11_ran_81 : decode cX11_ran 81 = .ok (.aload_n 0, 1) := by decide +kernel
theorem dX11_ran_82 : decode cX11_ran 82 = .ok (.getfield 208, 3) := by decide +kernel
theorem dX11_ran_85 : decode cX11_ran 85 = .ok (.ireturn, 1) := by decide +kernel
theorem dX11_ran_86 : decode cX11_ran 86 = .ok (.aload_n 0, 1) := by decide +kernel
theorem dX11_ran_87 : decode cX11_ran 87 = .ok (.getfield 202, 3) := by decide +kernel
theorem dX11_ran_90 : decode cX11_ran 90 = .ok (.ireturn, 1) := by decide +kernel
theorem dX11_ran_91 : decode cX11_ran 91 = .ok (.aload_n 0, 1) := by decide +kernel
theorem dX11_ran_92 : decode cX11_ran 92 = .ok (.getfield 218, 3) := by decide +kernel
theorem dX11_ran_95 : decode cX11_ran 95 = .ok (.ireturn, 1) := by decide +kernel
theorem dX11_ran_96 : decode cX11_ran 96 = .ok (.aload_n 0, 1) := by decide +kernel
theorem dX11_ran_97 : decode cX11_ran 97 = .ok (.getfield 211, 3) := by decide +kernel
theorem dX11_ran_100 : decode cX11_ran 100 = .ok (.ireturn, 1) := by decide +kernel
theorem dX11_ran_101 : decode cX11_ran 101 = .ok (.aload_n 0, 1) := by decide +kernel
theorem dX11_ran_102 : decode cX11_ran 102 = .ok (.getfield 202, 3) := by decide +kernel
theorem dX11_ran_105 : decode cX11_ran 105 = .ok (.ifCond .ne 8, 3) := by decide +kernel
theorem dX11_ran_108 : decode cX11_ran 108 = .ok (.bipush (-4), 2) := by decide +kernel
theorem dX11_ran_110 : decode cX11_ran 110 = .ok (.goto 14, 3) := by decide +kernel
theorem dX11_ran_113 : decode cX11_ran 113 = .ok (.aload_n 0, 1) := by decide +kernel
theorem dX11_ran_114 : decode cX11_ran 114 = .ok (.getfield 76, 3) := by decide +kernel
theorem dX11_ran_117 : decode cX11_ran 117 = .ok (.aload_n 0, 1) := by decide +kernel
theorem dX11_ran_118 : decode cX11_ran 118 = .ok (.getfield 202, 3) := by decide +kernel
theorem dX11_ran_121 : decode cX11_ran 121 = .ok (.iconst 1, 1) := by decide +kernel
theorem dX11_ran_122 : decode cX11_ran 122 = .ok (.isub, 1) := by decide +kernel
theorem dX11_ran_123 : decode cX11_ran 123 = .ok (.iaload, 1) := by decide +kernel
theorem dX11_ran_124 : decode cX11_ran 124 = .ok (.ireturn, 1) := by decide +kernel
theorem dX11_ran_125 : decode cX11_ran 125 = .ok (.iload_n 2, 1) := by decide +kernel
theorem dX11_ran_126 : decode cX11_ran 126 = .ok (.bipush (-5), 2) := by decide +kernel
theorem dX11_ran_128 : decode cX11_ran 128 = .ok (.if_icmp .eq 11, 3) := by decide +kernel
theorem dX11_ran_131 : decode cX11_ran 131 = .ok (.aload_n 0, 1) := by decide +kernel
theorem dX11_ran_132 : decode cX11_ran 132 = .ok (.getfield 208, 3) := by decide +kernel
theorem dX11_ran_135 : decode cX11_ran 135 = .ok (.iload_n 2, 1) := by decide +kernel
theorem dX11_ran_136 : decode cX11_ran 136 = .ok (.if_icmp .gt 7, 3) := by decide +kernel
theorem dX11_ran_139 : decode cX11_ran 139 = .ok (.iconst 1, 1) := by decide +kernel
theorem dX11_ran_140 : decode cX11_ran 140 = .ok (.goto 4, 3) := by decide +kernel
theorem dX11_ran_143 : decode cX11_ran 143 = .ok (.iconst 0, 1) := by decide +kernel
theorem dX11_ran_144 : decode cX11_ran 144 = .ok (.ireturn, 1) := by decide +kernel
theorem dX11_sheet_0 : decode cX11_sheet 0 = .ok (.iload_n 1, 1) := by decide +kernel
theorem dX11_sheet_1 : decode cX11_sheet 1 = .ok (.i2l, 1) := by decide +kernel
theorem dX11_sheet_2 : decode cX11_sheet 2 = .ok (.lconst 0, 1) := by decide +kernel
theorem dX11_sheet_3 : decode cX11_sheet 3 = .ok (.ldc2_w 112, 3) := by decide +kernel
theorem dX11_sheet_6 : decode cX11_sheet 6 = .ok (.invokestatic 95, 3) := by decide +kernel
theorem dX11_sheet_9 : decode cX11_sheet 9 = .ok (.ifCond .eq 21, 3) := by decide +kernel
theorem dX11_sheet_12 : decode cX11_sheet 12 = .ok (.iload_n 2, 1) := by decide +kernel
theorem dX11_sheet_13 : decode cX11_sheet 13 = .ok (.i2l, 1) := by decide +kernel
theorem dX11_sheet_14 : decode cX11_sheet 14 = .ok (.lconst 0, 1) := by decide +kernel
theorem dX11_sheet_15 : decode cX11_sheet 15 = .ok (.ldc2_w 233, 3) := by decide +kernel
theorem dX11_sheet_18 : decode cX11_sheet 18 = .ok (.invokestatic 95, 3) := by decide +kernel
theorem dX11_sheet_21 : decode cX11_sheet 21 = .ok (.ifCond .eq 9, 3) := by decide +kernel
theorem dX11_sheet_24 : decode cX11_sheet 24 = .ok (.iload_n 3, 1) := by decide +kernel
theorem dX11_sheet_25 : decode cX11_sheet 25 = .ok (.bipush 60, 2) := by decide +kernel
theorem dX11_sheet_27 : decode cX11_sheet 27 = .ok (.if_icmp .le 5, 3) := by decide +kernel
theorem dX11_sheet_30 : decode cX11_sheet 30 = .ok (.iconst (-1), 1) := by decide +kernel
theorem dX11_sheet_31 : decode cX11_sheet 31 = .ok (.ireturn, 1) := by decide +kernel
theorem dX11_sheet_32 : decode cX11_sheet 32 = .ok (.iload_n 3, 1) := by decide +kernel
theorem dX11_sheet_33 : decode cX11_sheet 33 = .ok (.ifCond .ge 6, 3) := by decide +kernel
theorem dX11_sheet_36 : decode cX11_sheet 36 = .ok (.bipush (-14), 2) := by decide +kernel
theorem dX11_sheet_38 : decode cX11_sheet 38 = .ok (.ireturn, 1) := by decide +kernel
theorem dX11_sheet_39 : decode cX11_sheet 39 = .ok (.aload_n 0, 1) := by decide +kernel
theorem dX11_sheet_40 : decode cX11_sheet 40 = .ok (.getfield 82, 3) := by decide +kernel
theorem dX11_sheet_43 : decode cX11_sheet 43 = .ok (.iload_n 1, 1) := by decide +kernel
theorem dX11_sheet_44 : decode cX11_sheet 44 = .ok (.iload_n 2, 1) := by decide +kernel
theorem dX11_sheet_45 : decode cX11_sheet 45 = .ok (.iastore, 1) := by decide +kernel
theorem dX11_sheet_46 : decode cX11_sheet 46 = .ok (.aload_n 0, 1) := by decide +kernel
theorem dX11_sheet_47 : decode cX11_sheet 47 = .ok (.getfield 85, 3) := by decide +kernel
theorem dX11_sheet_50 : decode cX11_sheet 50 = .ok (.iload_n 1, 1) := by decide +kernel
theorem dX11_sheet_51 : decode cX11_sheet 51 = .ok (.iload_n 3, 1) := by decide +kernel
theorem dX11_sheet_52 : decode cX11_sheet 52 = .ok (.iastore, 1) := by decide +kernel
theorem dX11_sheet_53 : decode cX11_sheet 53 = .ok (.iconst 0, 1) := by decide +kernel
theorem dX11_sheet_54 : decode cX11_sheet 54 = .ok (.istore 4, 2) := by decide +kernel
theorem dX11_sheet_56 : decode cX11_sheet 56 = .ok (.iload 4, 2) := by decide +kernel
theorem dX11_sheet_58 : decode cX11_sheet 58 = .ok (.bipush 60, 2) := by decide +kernel
theorem dX11_sheet_60 : decode cX11_sheet 60 = .ok (.if_icmp .ge 22, 3) := by decide +kernel
theorem dX11_sheet_63 : decode cX11_sheet 63 = .ok (.aload_n 0, 1) := by decide +kernel
theorem dX11_sheet_64 : decode cX11_sheet 64 = .ok (.getfield 88, 3) := by decide +kernel
theorem dX11_sheet_67 : decode cX11_sheet 67 = .ok (.bipush 60, 2) := by decide +kernel
theorem dX11_sheet_69 : decode cX11_sheet 69 = .ok (.iload_n 1, 1) := by decide +kernel
theorem dX11_sheet_70 : decode cX11_sheet 70 = .ok (.imul, 1) := by decide +kernel
theorem dX11_sheet_71 : decode cX11_sheet 71 = .ok (.iload 4, 2) := by decide +kernel
theorem dX11_sheet_73 : decode cX11_sheet 73 = .ok (.iadd, 1) := by decide +kernel
theorem dX11_sheet_74 : decode cX11_sheet 74 = .ok (.iconst 0, 1) := by decide +kernel
theorem dX11_sheet_75 : decode cX11_sheet 75 = .ok (.iastore, 1) := by decide +kernel
theorem dX11_sheet_76 : decode cX11_sheet 76 = .ok (.iinc 4 1, 3) := by decide +kernel
theorem dX11_sheet_79 : decode cX11_sheet 79 = .ok (.goto (-23), 3) := by decide +kernel
theorem dX11_sheet_82 : decode cX11_sheet 82 = .ok (.iconst 1, 1) := by decide +kernel
theorem dX11_sheet_83 : decode cX11_sheet 83 = .ok (.ireturn, 1) := by decide +kernel
theorem dX11_lay_0 : decode cX11_lay 0 = .ok (.iload_n 1, 1) := by decide +kernel
theorem dX11_lay_1 : decode cX11_lay 1 = .ok (.i2l, 1) := by decide +kernel
theorem dX11_lay_2 : decode cX11_lay 2 = .ok (.lconst 0, 1) := by decide +kernel
theorem dX11_lay_3 : decode cX11_lay 3 = .ok (.ldc2_w 112, 3) := by decide +kernel
theorem dX11_lay_6 : decode cX11_lay 6 = .ok (.invokestatic 95, 3) := by decide +kernel
theorem dX11_lay_9 : decode cX11_lay 9 = .ok (.ifCond .ne 5, 3) := by decide +kernel
theorem dX11_lay_12 : decode cX11_lay 12 = .ok (.iconst (-1), 1) := by decide +kernel
theorem dX11_lay_13 : decode cX11_lay 13 = .ok (.ireturn, 1) := by decide +kernel
theorem dX11_lay_14 : decode cX11_lay 14 = .ok (.aload_n 0, 1) := by decide +kernel
theorem dX11_lay_15 : decode cX11_lay 15 = .ok (.getfield 82, 3) := by decide +kernel
theorem dX11_lay_18 : decode cX11_lay 18 = .ok (.iload_n 1, 1) := by decide +kernel
theorem dX11_lay_19 : decode cX11_lay 19 = .ok (.iaload, 1) := by decide +kernel
theorem dX11_lay_20 : decode cX11_lay 20 = .ok (.bipush (-4), 2) := by decide +kernel
theorem dX11_lay_22 : decode cX11_lay 22 = .ok (.if_icmp .ne 6, 3) := by decide +kernel
theorem dX11_lay_25 : decode cX11_lay 25 = .ok (.bipush (-11), 2) := by decide +kernel
theorem dX11_lay_27 : decode cX11_lay 27 = .ok (.ireturn, 1) := by decide +kernel
theorem dX11_lay_28 : decode cX11_lay 28 = .ok (.iload_n 2, 1) := by decide +kernel
theorem dX11_lay_29 : decode cX11_lay 29 = .ok (.i2l, 1) := by decide +kernel
theorem dX11_lay_30 : decode cX11_lay 30 = .ok (.lconst 0, 1) := by decide +kernel
theorem dX11_lay_31 : decode cX11_lay 31 = .ok (.aload_n 0, 1) := by decide +kernel
theorem dX11_lay_32 : decode cX11_lay 32 = .ok (.getfield 85, 3) := by decide +kernel
theorem dX11_lay_35 : decode cX11_lay 35 = .ok (.iload_n 1, 1) := by decide +kernel
theorem dX11_lay_36 : decode cX11_lay 36 = .ok (.iaload, 1) := by decide +kernel
theorem dX11_lay_37 : decode cX11_lay 37 = .ok (.iconst 1, 1) := by decide +kernel
theorem dX11_lay_38 : decode cX11_lay 38 = .ok (.isub, 1) := by decide +kernel
theorem dX11_lay_39 : decode cX11_lay 39 = .ok (.i2l, 1) := by decide +kernel
theorem dX11_lay_40 : decode cX11_lay 40 = .ok (.invokestatic 95, 3) := by decide +kernel
theorem dX11_lay_43 : decode cX11_lay 43 = .ok (.ifCond .ne 6, 3) := by decide +kernel
theorem dX11_lay_46 : decode cX11_lay 46 = .ok (.bipush (-12), 2) := by decide +kernel
theorem dX11_lay_48 : decode cX11_lay 48 = .ok (.ireturn, 1) := by decide +kernel
theorem dX11_lay_49 : decode cX11_lay 49 = .ok (.aload_n 0, 1) := by decide +kernel
theorem dX11_lay_50 : decode cX11_lay 50 = .ok (.getfield 88, 3) := by decide +kernel
theorem dX11_lay_53 : decode cX11_lay 53 = .ok (.bipush 60, 2) := by decide +kernel
theorem dX11_lay_55 : decode cX11_lay 55 = .ok (.iload_n 1, 1) := by decide +kernel
theorem dX11_lay_56 : decode cX11_lay 56 = .ok (.imul, 1) := by decide +kernel
theorem dX11_lay_57 : decode cX11_lay 57 = .ok (.iload_n 2, 1) := by decide +kernel
theorem dX11_lay_58 : decode cX11_lay 58 = .ok (.iadd, 1) := by decide +kernel
theorem dX11_lay_59 : decode cX11_lay 59 = .ok (.aload_n 0, 1) := by decide +kernel
theorem dX11_lay_60 : decode cX11_lay 60 = .ok (.getfield 82, 3) := by decide +kernel
theorem dX11_lay_63 : decode cX11_lay 63 = .ok (.iload_n 1, 1) := by decide +kernel
theorem dX11_lay_64 : decode cX11_lay 64 = .ok (.iaload, 1) := by decide +kernel
theorem dX11_lay_65 : decode cX11_lay 65 = .ok (.ifCond .ne 13, 3) := by decide +kernel
theorem dX11_lay_68 : decode cX11_lay 68 = .ok (.iload_n 3, 1) := by decide +kernel
theorem dX11_lay_69 : decode cX11_lay 69 = .ok (.bipush 24, 2) := by decide +kernel
theorem dX11_lay_71 : decode cX11_lay 71 = .ok (.ishl, 1) := by decide +kernel
theorem dX11_lay_72 : decode cX11_lay 72 = .ok (.bipush 24, 2) := by decide +kernel
theorem dX11_lay_74 : decode cX11_lay 74 = .ok (.ishr, 1) := by decide +kernel
theorem dX11_lay_75 : decode cX11_lay 75 = .ok (.goto 24, 3) := by decide +kernel
theorem dX11_lay_78 : decode cX11_lay 78 = .ok (.aload_n 0, 1) := by decide +kernel
theorem dX11_lay_79 : decode cX11_lay 79 = .ok (.getfield 82, 3) := by decide +kernel
theorem dX11_lay_82 : decode cX11_lay 82 = .ok (.iload_n 1, 1) := by decide +kernel
theorem dX11_lay_83 : decode cX11_lay 83 = .ok (.iaload, 1) := by decide +kernel
theorem dX11_lay_84 : decode cX11_lay 84 = .ok (.iconst 1, 1) := by decide +kernel
theorem dX11_lay_85 : decode cX11_lay 85 = .ok (.if_icmp .ne 13, 3) := by decide +kernel
theorem dX11_lay_88 : decode cX11_lay 88 = .ok (.iload_n 3, 1) := by decide +kernel
theorem dX11_lay_89 : decode cX11_lay 89 = .ok (.bipush 16, 2) := by decide +kernel
theorem dX11_lay_91 : decode cX11_lay 91 = .ok (.ishl, 1) := by decide +kernel
theorem dX11_lay_92 : decode cX11_lay 92 = .ok (.bipush 16, 2) := by decide +kernel
theorem dX11_lay_94 : decode cX11_lay 94 = .ok (.ishr, 1) := by decide +kernel
theorem dX11_lay_95 : decode cX11_lay 95 = .ok (.goto 4, 3) := by decide +kernel
theorem dX11_lay_98 : decode cX11_lay 98 = .ok (.iload_n 3, 1) := by decide +kernel
theorem dX11_lay_99 : decode cX11_lay 99 = .ok (.iastore, 1) := by decide +kernel
theorem dX11_lay_100 : decode cX11_lay 100 = .ok (.iconst 1, 1) := by decide +kernel
theorem dX11_lay_101 : decode cX11_lay 101 = .ok (.ireturn, 1) := by decide +kernel
theorem dX11_scan_0 : decode cX11_scan 0 = .ok (.iload_n 1, 1) := by decide +kernel
theorem dX11_scan_1 : decode cX11_scan 1 = .ok (.i2l, 1) := by decide +kernel
theorem dX11_scan_2 : decode cX11_scan 2 = .ok (.lconst 0, 1) := by decide +kernel
theorem dX11_scan_3 : decode cX11_scan 3 = .ok (.ldc2_w 112, 3) := by decide +kernel
theorem dX11_scan_6 : decode cX11_scan 6 = .ok (.invokestatic 95, 3) := by decide +kernel
theorem dX11_scan_9 : decode cX11_scan 9 = .ok (.ifCond .eq 28, 3) := by decide +kernel
theorem dX11_scan_12 : decode cX11_scan 12 = .ok (.iload_n 2, 1) := by decide +kernel
theorem dX11_scan_13 : decode cX11_scan 13 = .ok (.i2l, 1) := by decide +kernel
theorem dX11_scan_14 : decode cX11_scan 14 = .ok (.lconst 0, 1) := by decide +kernel
theorem dX11_scan_15 : decode cX11_scan 15 = .ok (.ldc2_w 233, 3) := by decide +kernel
theorem dX11_scan_18 : decode cX11_scan 18 = .ok (.invokestatic 95, 3) := by decide +kernel
theorem dX11_scan_21 : decode cX11_scan 21 = .ok (.ifCond .eq 16, 3) := by decide +kernel
theorem dX11_scan_24 : decode cX11_scan 24 = .ok (.iload 4, 2) := by decide +kernel
theorem dX11_scan_26 : decode cX11_scan 26 = .ok (.i2l, 1) := by decide +kernel
theorem dX11_scan_27 : decode cX11_scan 27 = .ok (.lconst 0, 1) := by decide +kernel
theorem dX11_scan_28 : decode cX11_scan 28 = .ok (.ldc2_w 107, 3) := by decide +kernel
theorem dX11_scan_31 : decode cX11_scan 31 = .ok (.invokestatic 95, 3) := by decide +kernel
theorem dX11_scan_34 : decode cX11_scan 34 = .ok (.ifCond .ne 5, 3) := by decide +kernel
theorem dX11_scan_37 : decode cX11_scan 37 = .ok (.iconst (-1), 1) := by decide +kernel
theorem dX11_scan_38 : decode cX11_scan 38 = .ok (.ireturn, 1) := by decide +kernel
theorem dX11_scan_39 : decode cX11_scan 39 = .ok (.aload_n 0, 1) := by decide +kernel
theorem dX11_scan_40 : decode cX11_scan 40 = .ok (.getfield 82, 3) := by decide +kernel
theorem dX11_scan_43 : decode cX11_scan 43 = .ok (.iload_n 1, 1) := by decide +kernel
theorem dX11_scan_44 : decode cX11_scan 44 = .ok (.iaload, 1) := by decide +kernel
theorem dX11_scan_45 : decode cX11_scan 45 = .ok (.iload_n 2, 1) := by decide +kernel
theorem dX11_scan_46 : decode cX11_scan 46 = .ok (.if_icmp .eq 22, 3) := by decide +kernel
theorem dX11_scan_49 : decode cX11_scan 49 = .ok (.aload_n 0, 1) := by decide +kernel
theorem dX11_scan_50 : decode cX11_scan 50 = .ok (.getfield 82, 3) := by decide +kernel
theorem dX11_scan_53 : decode cX11_scan 53 = .ok (.iload_n 1, 1) := by decide +kernel
theorem dX11_scan_54 : decode cX11_scan 54 = .ok (.iaload, 1) := by decide +kernel
theorem dX11_scan_55 : decode cX11_scan 55 = .ok (.bipush (-4), 2) := by decide +kernel
theorem dX11_scan_57 : decode cX11_scan 57 = .ok (.if_icmp .ne 8, 3) := by decide +kernel
theorem dX11_scan_60 : decode cX11_scan 60 = .ok (.bipush (-11), 2) := by decide +kernel
theorem dX11_scan_62 : decode cX11_scan 62 = .ok (.goto 5, 3) := by decide +kernel
theorem dX11_scan_65 : decode cX11_scan 65 = .ok (.bipush (-13), 2) := by decide +kernel
theorem dX11_scan_67 : decode cX11_scan 67 = .ok (.ireturn, 1) := by decide +kernel
theorem dX11_scan_68 : decode cX11_scan 68 = .ok (.aload_n 0, 1) := by decide +kernel
theorem dX11_scan_69 : decode cX11_scan 69 = .ok (.getfield 109, 3) := by decide +kernel
theorem dX11_scan_72 : decode cX11_scan 72 = .ok (.istore 5, 2) := by decide +kernel
theorem dX11_scan_74 : decode cX11_scan 74 = .ok (.iconst 0, 1) := by decide +kernel
theorem dX11_scan_75 : decode cX11_scan 75 = .ok (.istore 6, 2) := by decide +kernel
theorem dX11_scan_77 : decode cX11_scan 77 = .ok (.iload 6, 2) := by decide +kernel
theorem dX11_scan_79 : decode cX11_scan 79 = .ok (.iload 4, 2) := by decide +kernel
theorem dX11_scan_81 : decode cX11_scan 81 = .ok (.if_icmp .ge 118, 3) := by decide +kernel
theorem dX11_scan_84 : decode cX11_scan 84 = .ok (.iload_n 3, 1) := by decide +kernel
theorem dX11_scan_85 : decode cX11_scan 85 = .ok (.i2l, 1) := by decide +kernel
theorem dX11_scan_86 : decode cX11_scan 86 = .ok (.iconst 3, 1) := by decide +kernel
theorem dX11_scan_87 : decode cX11_scan 87 = .ok (.iload 6, 2) := by decide +kernel
theorem dX11_scan_89 : decode cX11_scan 89 = .ok (.imul, 1) := by decide +kernel
theorem dX11_scan_90 : decode cX11_scan 90 = .ok (.i2l, 1) := by decide +kernel
theorem dX11_scan_91 : decode cX11_scan 91 = .ok (.ladd, 1) := by decide +kernel
theorem dX11_scan_92 : decode cX11_scan 92 = .ok (.lstore 7, 2) := by decide +kernel
theorem dX11_scan_94 : decode cX11_scan 94 = .ok (.iconst 0, 1) := by decide +kernel
theorem dX11_scan_95 : decode cX11_scan 95 = .ok (.istore 9, 2) := by decide +kernel
theorem dX11_scan_97 : decode cX11_scan 97 = .ok (.lload 7, 2) := by decide +kernel
theorem dX11_scan_99 : decode cX11_scan 99 = .ok (.lconst 0, 1) := by decide +kernel
theorem dX11_scan_100 : decode cX11_scan 100 = .ok (.aload_n 0, 1) := by decide +kernel
theorem dX11_scan_101 : decode cX11_scan 101 = .ok (.getfield 85, 3) := by decide +kernel
theorem dX11_scan_104 : decode cX11_scan 104 = .ok (.iload_n 1, 1) := by decide +kernel
theorem dX11_scan_105 : decode cX11_scan 105 = .ok (.iaload, 1) := by decide +kernel
theorem dX11_scan_106 : decode cX11_scan 106 = .ok (.iconst 3, 1) := by decide +kernel
theorem dX11_scan_107 : decode cX11_scan 107 = .ok (.isub, 1) := by decide +kernel
theorem dX11_scan_108 : decode cX11_scan 108 = .ok (.i2l, 1) := by decide +kernel
theorem dX11_scan_109 : decode cX11_scan 109 = .ok (.invokestatic 95, 3) := by decide +kernel
theorem dX11_scan_112 : decode cX11_scan 112 = .ok (.ifCond .ne 10, 3) := by decide +kernel
theorem dX11_scan_115 : decode cX11_scan 115 = .ok (.bipush (-12), 2) := by decide +kernel
theorem dX11_scan_117 : decode cX11_scan 117 = .ok (.istore 9, 2) := by decide +kernel
theorem dX11_scan_119 : decode cX11_scan 119 = .ok (.goto 60, 3) := by decide +kernel
theorem dX11_scan_122 : decode cX11_scan 122 = .ok (.bipush 60, 2) := by decide +kernel
theorem dX11_scan_124 : decode cX11_scan 124 = .ok (.iload_n 1, 1) := by decide +kernel
theorem dX11_scan_125 : decode cX11_scan 125 = .ok (.imul, 1) := by decide +kernel
theorem dX11_scan_126 : decode cX11_scan 126 = .ok (.lload 7, 2) := by decide +kernel
theorem dX11_scan_128 : decode cX11_scan 128 = .ok (.l2i, 1) := by decide +kernel
theorem dX11_scan_129 : decode cX11_scan 129 = .ok (.iadd, 1) := by decide +kernel
theorem dX11_scan_130 : decode cX11_scan 130 = .ok (.istore 10, 2) := by decide +kernel
theorem dX11_scan_132 : decode cX11_scan 132 = .ok (.aload_n 0, 1) := by decide +kernel
theorem dX11_scan_133 : decode cX11_scan 133 = .ok (.aload_n 0, 1) := by decide +kernel
theorem dX11_scan_134 : decode cX11_scan 134 = .ok (.getfield 88, 3) := by decide +kernel
theorem dX11_scan_137 : decode cX11_scan 137 = .ok (.iload 10, 2) := by decide +kernel
theorem dX11_scan_139 : decode cX11_scan 139 = .ok (.iaload, 1) := by decide +kernel
theorem dX11_scan_140 : decode cX11_scan 140 = .ok (.aload_n 0, 1) := by decide +kernel
theorem dX11_scan_141 : decode cX11_scan 141 = .ok (.getfield 88, 3) := by decide +kernel
theorem dX11_scan_144 : decode cX11_scan 144 = .ok (.iload 10, 2) := by decide +kernel
theorem dX11_scan_146 : decode cX11_scan 146 = .ok (.iconst 1, 1) := by decide +kernel
theorem dX11_scan_147 : decode cX11_scan 147 = .ok (.iadd, 1) := by decide +kernel
theorem dX11_scan_148 : decode cX11_scan 148 = .ok (.iaload, 1) := by decide +kernel
theorem dX11_scan_149 : decode cX11_scan 149 = .ok (.aload_n 0, 1) := by decide +kernel
theorem dX11_scan_150 : decode cX11_scan 150 = .ok (.getfield 88, 3) := by decide +kernel
theorem dX11_scan_153 : decode cX11_scan 153 = .ok (.iload 10, 2) := by decide +kernel
theorem dX11_scan_155 : decode cX11_scan 155 = .ok (.iconst 2, 1) := by decide +kernel
theorem dX11_scan_156 : decode cX11_scan 156 = .ok (.iadd, 1) := by decide +kernel
theorem dX11_scan_157 : decode cX11_scan 157 = .ok (.iaload, 1) := by decide +kernel
theorem dX11_scan_158 : decode cX11_scan 158 = .ok (.invokevirtual 125, 3) := by decide +kernel
theorem dX11_scan_161 : decode cX11_scan 161 = .ok (.istore 11, 2) := by decide +kernel
theorem dX11_scan_163 : decode cX11_scan 163 = .ok (.iload 11, 2) := by decide +kernel
theorem dX11_scan_165 : decode cX11_scan 165 = .ok (.ifCond .ge 11, 3) := by decide +kernel
theorem dX11_scan_168 : decode cX11_scan 168 = .ok (.bipush (-20), 2) := by decide +kernel
theorem dX11_scan_170 : decode cX11_scan 170 = .ok (.iload 11, 2) := by decide +kernel
theorem dX11_scan_172 : decode cX11_scan 172 = .ok (.iadd, 1) := by decide +kernel
theorem dX11_scan_173 : decode cX11_scan 173 = .ok (.goto 4, 3) := by decide +kernel
theorem dX11_scan_176 : decode cX11_scan 176 = .ok (.iconst 0, 1) := by decide +kernel
theorem dX11_scan_177 : decode cX11_scan 177 = .ok (.istore 9, 2) := by decide +kernel
theorem dX11_scan_179 : decode cX11_scan 179 = .ok (.iload 9, 2) := by decide +kernel
theorem dX11_scan_181 : decode cX11_scan 181 = .ok (.ifCond .ge 12, 3) := by decide +kernel
theorem dX11_scan_184 : decode cX11_scan 184 = .ok (.aload_n 0, 1) := by decide +kernel
theorem dX11_scan_185 : decode cX11_scan 185 = .ok (.iload 5, 2) := by decide +kernel
theorem dX11_scan_187 : decode cX11_scan 187 = .ok (.putfield 109, 3) := by decide +kernel
theorem dX11_scan_190 : decode cX11_scan 190 = .ok (.iload 9, 2) := by decide +kernel
theorem dX11_scan_192 : decode cX11_scan 192 = .ok (.ireturn, 1) := by decide +kernel
theorem dX11_scan_193 : decode cX11_scan 193 = .ok (.iinc 6 1, 3) := by decide +kernel
theorem dX11_scan_196 : decode cX11_scan 196 = .ok (.goto (-119), 3) := by decide +kernel
theorem dX11_scan_199 : decode cX11_scan 199 = .ok (.aload_n 0, 1) := by decide +kernel
theorem dX11_scan_200 : decode cX11_scan 200 = .ok (.getfield 109, 3) := by decide +kernel
theorem dX11_scan_203 : decode cX11_scan 203 = .ok (.ireturn, 1) := by decide +kernel
theorem dX11_count_0 : decode cX11_count 0 = .ok (.iload_n 1, 1) := by decide +kernel
theorem dX11_count_1 : decode cX11_count 1 = .ok (.tableswitch 135 0 5 #[39, 44, 49, 54, 59, 112], 39) := by decide +kernel
theorem dX11_count_40 : decode cX11_count 40 = .ok (.aload_n 0, 1) := by decide +kernel
theorem dX11_count_41 : decode cX11_count 41 = .ok (.getfield 91, 3) := by decide +kernel
theorem dX11_count_44 : decode cX11_count 44 = .ok (.ireturn, 1) := by decide +kernel
theorem dX11_count_45 : decode cX11_count 45 = .ok (.aload_n 0, 1) := by decide +kernel
theorem dX11_count_46 : decode cX11_count 46 = .ok (.getfield 109, 3) := by decide +kernel
theorem dX11_count_49 : decode cX11_count 49 = .ok (.ireturn, 1) := by decide +kernel
theorem dX11_count_50 : decode cX11_count 50 = .ok (.aload_n 0, 1) := by decide +kernel
theorem dX11_count_51 : decode cX11_count 51 = .ok (.getfield 166, 3) := by decide +kernel
theorem dX11_count_54 : decode cX11_count 54 = .ok (.ireturn, 1) := by decide +kernel
theorem dX11_count_55 : decode cX11_count 55 = .ok (.aload_n 0, 1) := by decide +kernel
theorem dX11_count_56 : decode cX11_count 56 = .ok (.getfield 169, 3) := by decide +kernel
theorem dX11_count_59 : decode cX11_count 59 = .ok (.ireturn, 1) := by decide +kernel
theorem dX11_count_60 : decode cX11_count 60 = .ok (.aload_n 0, 1) := by decide +kernel
theorem dX11_count_61 : decode cX11_count 61 = .ok (.invokevirtual 133, 3) := by decide +kernel
theorem dX11_count_64 : decode cX11_count 64 = .ok (.iconst 0, 1) := by decide +kernel
theorem dX11_count_65 : decode cX11_count 65 = .ok (.istore_n 2, 1) := by decide +kernel
theorem dX11_count_66 : decode cX11_count 66 = .ok (.iconst 0, 1) := by decide +kernel
theorem dX11_count_67 : decode cX11_count 67 = .ok (.istore_n 3, 1) := by decide +kernel
theorem dX11_count_68 : decode cX11_count 68 = .ok (.iload_n 3, 1) := by decide +kernel
theorem dX11_count_69 : decode cX11_count 69 = .ok (.aload_n 0, 1) := by decide +kernel
theorem dX11_count_70 : decode cX11_count 70 = .ok (.getfield 91, 3) := by decide +kernel
theorem dX11_count_73 : decode cX11_count 73 = .ok (.if_icmp .ge 38, 3) := by decide +kernel
theorem dX11_count_76 : decode cX11_count 76 = .ok (.iload_n 2, 1) := by decide +kernel
theorem dX11_count_77 : decode cX11_count 77 = .ok (.aload_n 0, 1) := by decide +kernel
theorem dX11_count_78 : decode cX11_count 78 = .ok (.iload_n 3, 1) := by decide +kernel
theorem dX11_count_79 : decode cX11_count 79 = .ok (.invokevirtual 136, 3) := by decide +kernel
theorem dX11_count_82 : decode cX11_count 82 = .ok (.ifCond .eq 20, 3) := by decide +kernel
theorem dX11_count_85 : decode cX11_count 85 = .ok (.aload_n 0, 1) := by decide +kernel
theorem dX11_count_86 : decode cX11_count 86 = .ok (.getfield 43, 3) := by decide +kernel
theorem dX11_count_89 : decode cX11_count 89 = .ok (.iload_n 3, 1) := by decide +kernel
theorem dX11_count_90 : decode cX11_count 90 = .ok (.iaload, 1) := by decide +kernel
theorem dX11_count_91 : decode cX11_count 91 = .ok (.invokestatic 139, 3) := by decide +kernel
theorem dX11_count_94 : decode cX11_count 94 = .ok (.iload_n 3, 1) := by decide +kernel
theorem dX11_count_95 : decode cX11_count 95 = .ok (.if_icmp .ne 7, 3) := by decide +kernel
theorem dX11_count_98 : decode cX11_count 98 = .ok (.iconst 1, 1) := by decide +kernel
theorem dX11_count_99 : decode cX11_count 99 = .ok (.goto 4, 3) := by decide +kernel
theorem dX11_count_102 : decode cX11_count 102 = .ok (.iconst 0, 1) := by decide +kernel
theorem dX11_count_103 : decode cX11_count 103 = .ok (.iadd, 1) := by decide +kernel
theorem dX11_count_104 : decode cX11_count 104 = .ok (.istore_n 2, 1) := by decide +kernel
theorem dX11_count_105 : decode cX11_count 105 = .ok (.iinc 3 1, 3) := by decide +kernel
theorem dX11_count_108 : decode cX11_count 108 = .ok (.goto (-40), 3) := by decide +kernel
theorem dX11_count_111 : decode cX11_count 111 = .ok (.iload_n 2, 1) := by decide +kernel
theorem dX11_count_112 : decode cX11_count 112 = .ok (.ireturn, 1) := by decide +kernel
theorem dX11_count_113 : decode cX11_count 113 = .ok (.aload_n 0, 1) := by decide +kernel
theorem dX11_count_114 : decode cX11_count 114 = .ok (.getfield 82, 3) := by decide +kernel
theorem dX11_count_117 : decode cX11_count 117 = .ok (.iconst 0, 1) := by decide +kernel
theorem dX11_count_118 : decode cX11_count 118 = .ok (.iaload, 1) := by decide +kernel
theorem dX11_count_119 : decode cX11_count 119 = .ok (.bipush (-4), 2) := by decide +kernel
theorem dX11_count_121 : decode cX11_count 121 = .ok (.if_icmp .ne 8, 3) := by decide +kernel
theorem dX11_count_124 : decode cX11_count 124 = .ok (.bipush (-4), 2) := by decide +kernel
theorem dX11_count_126 : decode cX11_count 126 = .ok (.goto 9, 3) := by decide +kernel
theorem dX11_count_129 : decode cX11_count 129 = .ok (.aload_n 0, 1) := by decide +kernel
theorem dX11_count_130 : decode cX11_count 130 = .ok (.getfield 85, 3) := by decide +kernel
theorem dX11_count_133 : decode cX11_count 133 = .ok (.iconst 0, 1) := by decide +kernel
theorem dX11_count_134 : decode cX11_count 134 = .ok (.iaload, 1) := by decide +kernel
theorem dX11_count_135 : decode cX11_count 135 = .ok (.ireturn, 1) := by decide +kernel
theorem dX11_count_136 : decode cX11_count 136 = .ok (.iconst (-1), 1) := by decide +kernel
theorem dX11_count_137 : decode cX11_count 137 = .ok (.ireturn, 1) := by decide +kernel
