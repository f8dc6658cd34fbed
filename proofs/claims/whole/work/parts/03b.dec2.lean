theorem dX9_thrown_0 : decode cX9_thrown 0 = .ok (.aload_n 0, 1) := by decide +kernel
theorem dX9_thrown_1 : decode cX9_thrown 1 = .ok (.getfield 1, 3) := by decide +kernel
theorem dX9_thrown_4 : decode cX9_thrown 4 = .ok (.ireturn, 1) := by decide +kernel
theorem dX9_init_0 : decode cX9_init 0 = .ok (.aload_n 0, 1) := by decide +kernel
theorem dX9_init_1 : decode cX9_init 1 = .ok (.invokespecial 7, 3) := by decide +kernel
theorem dX9_init_4 : decode cX9_init 4 = .ok (.aload_n 0, 1) := by decide +kernel
theorem dX9_init_5 : decode cX9_init 5 = .ok (.bipush 16, 2) := by decide +kernel
theorem dX9_init_7 : decode cX9_init 7 = .ok (.newarray .int, 2) := by decide +kernel
theorem dX9_init_9 : decode cX9_init 9 = .ok (.putfield 13, 3) := by decide +kernel
theorem dX9_init_12 : decode cX9_init 12 = .ok (.aload_n 0, 1) := by decide +kernel
theorem dX9_init_13 : decode cX9_init 13 = .ok (.bipush 16, 2) := by decide +kernel
theorem dX9_init_15 : decode cX9_init 15 = .ok (.newarray .int, 2) := by decide +kernel
theorem dX9_init_17 : decode cX9_init 17 = .ok (.putfield 17, 3) := by decide +kernel
theorem dX9_init_20 : decode cX9_init 20 = .ok (.aload_n 0, 1) := by decide +kernel
theorem dX9_init_21 : decode cX9_init 21 = .ok (.bipush 16, 2) := by decide +kernel
theorem dX9_init_23 : decode cX9_init 23 = .ok (.newarray .int, 2) := by decide +kernel
theorem dX9_init_25 : decode cX9_init 25 = .ok (.putfield 20, 3) := by decide +kernel
theorem dX9_init_28 : decode cX9_init 28 = .ok (.aload_n 0, 1) := by decide +kernel
theorem dX9_init_29 : decode cX9_init 29 = .ok (.bipush 16, 2) := by decide +kernel
theorem dX9_init_31 : decode cX9_init 31 = .ok (.newarray .int, 2) := by decide +kernel
theorem dX9_init_33 : decode cX9_init 33 = .ok (.putfield 23, 3) := by decide +kernel
theorem dX9_init_36 : decode cX9_init 36 = .ok (.aload_n 0, 1) := by decide +kernel
theorem dX9_init_37 : decode cX9_init 37 = .ok (.bipush 16, 2) := by decide +kernel
theorem dX9_init_39 : decode cX9_init 39 = .ok (.newarray .int, 2) := by decide +kernel
theorem dX9_init_41 : decode cX9_init 41 = .ok (.putfield 26, 3) := by decide +kernel
theorem dX9_init_44 : decode cX9_init 44 = .ok (.aload_n 0, 1) := by decide +kernel
theorem dX9_init_45 : decode cX9_init 45 = .ok (.bipush 16, 2) := by decide +kernel
theorem dX9_init_47 : decode cX9_init 47 = .ok (.newarray .long, 2) := by decide +kernel
theorem dX9_init_49 : decode cX9_init 49 = .ok (.putfield 29, 3) := by decide +kernel
theorem dX9_init_52 : decode cX9_init 52 = .ok (.aload_n 0, 1) := by decide +kernel
theorem dX9_init_53 : decode cX9_init 53 = .ok (.bipush 16, 2) := by decide +kernel
theorem dX9_init_55 : decode cX9_init 55 = .ok (.newarray .boolean, 2) := by decide +kernel
theorem dX9_init_57 : decode cX9_init 57 = .ok (.putfield 33, 3) := by decide +kernel
theorem dX9_init_60 : decode cX9_init 60 = .ok (.aload_n 0, 1) := by decide +kernel
theorem dX9_init_61 : decode cX9_init 61 = .ok (.bipush 40, 2) := by decide +kernel
theorem dX9_init_63 : decode cX9_init 63 = .ok (.newarray .int, 2) := by decide +kernel
theorem dX9_init_65 : decode cX9_init 65 = .ok (.putfield 37, 3) := by decide +kernel
theorem dX9_init_68 : decode cX9_init 68 = .ok (.aload_n 0, 1) := by decide +kernel
theorem dX9_init_69 : decode cX9_init 69 = .ok (.bipush 40, 2) := by decide +kernel
theorem dX9_init_71 : decode cX9_init 71 = .ok (.newarray .int, 2) := by decide +kernel
theorem dX9_init_73 : decode cX9_init 73 = .ok (.putfield 40, 3) := by decide +kernel
theorem dX9_init_76 : decode cX9_init 76 = .ok (.aload_n 0, 1) := by decide +kernel
theorem dX9_init_77 : decode cX9_init 77 = .ok (.bipush 40, 2) := by decide +kernel
theorem dX9_init_79 : decode cX9_init 79 = .ok (.newarray .int, 2) := by decide +kernel
theorem dX9_init_81 : decode cX9_init 81 = .ok (.putfield 43, 3) := by decide +kernel
theorem dX9_init_84 : decode cX9_init 84 = .ok (.aload_n 0, 1) := by decide +kernel
theorem dX9_init_85 : decode cX9_init 85 = .ok (.bipush 40, 2) := by decide +kernel
theorem dX9_init_87 : decode cX9_init 87 = .ok (.newarray .int, 2) := by decide +kernel
theorem dX9_init_89 : decode cX9_init 89 = .ok (.putfield 46, 3) := by decide +kernel
theorem dX9_init_92 : decode cX9_init 92 = .ok (.aload_n 0, 1) := by decide +kernel
theorem dX9_init_93 : decode cX9_init 93 = .ok (.bipush 40, 2) := by decide +kernel
theorem dX9_init_95 : decode cX9_init 95 = .ok (.newarray .int, 2) := by decide +kernel
theorem dX9_init_97 : decode cX9_init 97 = .ok (.putfield 49, 3) := by decide +kernel
theorem dX9_init_100 : decode cX9_init 100 = .ok (.aload_n 0, 1) := by decide +kernel
theorem dX9_init_101 : decode cX9_init 101 = .ok (.bipush 40, 2) := by decide +kernel
theorem dX9_init_103 : decode cX9_init 103 = .ok (.newarray .int, 2) := by decide +kernel
theorem dX9_init_105 : decode cX9_init 105 = .ok (.putfield 52, 3) := by decide +kernel
theorem dX9_init_108 : decode cX9_init 108 = .ok (.aload_n 0, 1) := by decide +kernel
theorem dX9_init_109 : decode cX9_init 109 = .ok (.bipush 40, 2) := by decide +kernel
theorem dX9_init_111 : decode cX9_init 111 = .ok (.newarray .int, 2) := by decide +kernel
theorem dX9_init_113 : decode cX9_init 113 = .ok (.putfield 55, 3) := by decide +kernel
theorem dX9_init_116 : decode cX9_init 116 = .ok (.aload_n 0, 1) := by decide +kernel
theorem dX9_init_117 : decode cX9_init 117 = .ok (.bipush 40, 2) := by decide +kernel
theorem dX9_init_119 : decode cX9_init 119 = .ok (.newarray .int, 2) := by decide +kernel
theorem dX9_init_121 : decode cX9_init 121 = .ok (.putfield 58, 3) := by decide +kernel
theorem dX9_init_124 : decode cX9_init 124 = .ok (.aload_n 0, 1) := by decide +kernel
theorem dX9_init_125 : decode cX9_init 125 = .ok (.bipush 40, 2) := by decide +kernel
theorem dX9_init_127 : decode cX9_init 127 = .ok (.newarray .long, 2) := by decide +kernel
theorem dX9_init_129 : decode cX9_init 129 = .ok (.putfield 61, 3) := by decide +kernel
theorem dX9_init_132 : decode cX9_init 132 = .ok (.aload_n 0, 1) := by decide +kernel
theorem dX9_init_133 : decode cX9_init 133 = .ok (.sipush 2400, 3) := by decide +kernel
theorem dX9_init_136 : decode cX9_init 136 = .ok (.newarray .int, 2) := by decide +kernel
theorem dX9_init_138 : decode cX9_init 138 = .ok (.putfield 64, 3) := by decide +kernel
theorem dX9_init_141 : decode cX9_init 141 = .ok (.aload_n 0, 1) := by decide +kernel
theorem dX9_init_142 : decode cX9_init 142 = .ok (.bipush 16, 2) := by decide +kernel
theorem dX9_init_144 : decode cX9_init 144 = .ok (.newarray .int, 2) := by decide +kernel
theorem dX9_init_146 : decode cX9_init 146 = .ok (.putfield 67, 3) := by decide +kernel
theorem dX9_init_149 : decode cX9_init 149 = .ok (.aload_n 0, 1) := by decide +kernel
theorem dX9_init_150 : decode cX9_init 150 = .ok (.iconst 5, 1) := by decide +kernel
theorem dX9_init_151 : decode cX9_init 151 = .ok (.newarray .int, 2) := by decide +kernel
theorem dX9_init_153 : decode cX9_init 153 = .ok (.putfield 70, 3) := by decide +kernel
theorem dX9_init_156 : decode cX9_init 156 = .ok (.aload_n 0, 1) := by decide +kernel
theorem dX9_init_157 : decode cX9_init 157 = .ok (.iconst 5, 1) := by decide +kernel
theorem dX9_init_158 : decode cX9_init 158 = .ok (.newarray .int, 2) := by decide +kernel
theorem dX9_init_160 : decode cX9_init 160 = .ok (.putfield 73, 3) := by decide +kernel
theorem dX9_init_163 : decode cX9_init 163 = .ok (.aload_n 0, 1) := by decide +kernel
theorem dX9_init_164 : decode cX9_init 164 = .ok (.bipush 40, 2) := by decide +kernel
theorem dX9_init_166 : decode cX9_init 166 = .ok (.newarray .boolean, 2) := by decide +kernel
theorem dX9_init_168 : decode cX9_init 168 = .ok (.putfield 76, 3) := by decide +kernel
theorem dX9_init_171 : decode cX9_init 171 = .ok (.aload_n 0, 1) := by decide +kernel
theorem dX9_init_172 : decode cX9_init 172 = .ok (.bipush 40, 2) := by decide +kernel
theorem dX9_init_174 : decode cX9_init 174 = .ok (.newarray .boolean, 2) := by decide +kernel
theorem dX9_init_176 : decode cX9_init 176 = .ok (.putfield 79, 3) := by decide +kernel
theorem dX9_init_179 : decode cX9_init 179 = .ok (.aload_n 0, 1) := by decide +kernel
theorem dX9_init_180 : decode cX9_init 180 = .ok (.sipush 300, 3) := by decide +kernel
theorem dX9_init_183 : decode cX9_init 183 = .ok (.newarray .int, 2) := by decide +kernel
theorem dX9_init_185 : decode cX9_init 185 = .ok (.putfield 82, 3) := by decide +kernel
theorem dX9_init_188 : decode cX9_init 188 = .ok (.aload_n 0, 1) := by decide +kernel
theorem dX9_init_189 : decode cX9_init 189 = .ok (.bipush 8, 2) := by decide +kernel
theorem dX9_init_191 : decode cX9_init 191 = .ok (.newarray .int, 2) := by decide +kernel
theorem dX9_init_193 : decode cX9_init 193 = .ok (.putfield 85, 3) := by decide +kernel
theorem dX9_init_196 : decode cX9_init 196 = .ok (.aload_n 0, 1) := by decide +kernel
theorem dX9_init_197 : decode cX9_init 197 = .ok (.bipush 8, 2) := by decide +kernel
theorem dX9_init_199 : decode cX9_init 199 = .ok (.newarray .int, 2) := by decide +kernel
theorem dX9_init_201 : decode cX9_init 201 = .ok (.putfield 88, 3) := by decide +kernel
theorem dX9_init_204 : decode cX9_init 204 = .ok (.aload_n 0, 1) := by decide +kernel
theorem dX9_init_205 : decode cX9_init 205 = .ok (.bipush 8, 2) := by decide +kernel
theorem dX9_init_207 : decode cX9_init 207 = .ok (.newarray .int, 2) := by decide +kernel
theorem dX9_init_209 : decode cX9_init 209 = .ok (.putfield 91, 3) := by decide +kernel
theorem dX9_init_212 : decode cX9_init 212 = .ok (.aload_n 0, 1) := by decide +kernel
theorem dX9_init_213 : decode cX9_init 213 = .ok (.bipush 8, 2) := by decide +kernel
theorem dX9_init_215 : decode cX9_init 215 = .ok (.newarray .boolean, 2) := by decide +kernel
theorem dX9_init_217 : decode cX9_init 217 = .ok (.putfield 94, 3) := by decide +kernel
theorem dX9_init_220 : decode cX9_init 220 = .ok (.aload_n 0, 1) := by decide +kernel
theorem dX9_init_221 : decode cX9_init 221 = .ok (.bipush 61, 2) := by decide +kernel
theorem dX9_init_223 : decode cX9_init 223 = .ok (.newarray .long, 2) := by decide +kernel
theorem dX9_init_225 : decode cX9_init 225 = .ok (.putfield 97, 3) := by decide +kernel
theorem dX9_init_228 : decode cX9_init 228 = .ok (.aload_n 0, 1) := by decide +kernel
theorem dX9_init_229 : decode cX9_init 229 = .ok (.bipush 61, 2) := by decide +kernel
theorem dX9_init_231 : decode cX9_init 231 = .ok (.newarray .int, 2) := by decide +kernel
theorem dX9_init_233 : decode cX9_init 233 = .ok (.putfield 100, 3) := by decide +kernel
theorem dX9_init_236 : decode cX9_init 236 = .ok (.iconst 0, 1) := by decide +kernel
theorem dX9_init_237 : decode cX9_init 237 = .ok (.istore_n 1, 1) := by decide +kernel
theorem dX9_init_238 : decode cX9_init 238 = .ok (.iload_n 1, 1) := by decide +kernel
theorem dX9_init_239 : decode cX9_init 239 = .ok (.bipush 16, 2) := by decide +kernel
theorem dX9_init_241 : decode cX9_init 241 = .ok (.if_icmp .ge 23, 3) := by decide +kernel
theorem dX9_init_244 : decode cX9_init 244 = .ok (.aload_n 0, 1) := by decide +kernel
theorem dX9_init_245 : decode cX9_init 245 = .ok (.getfield 13, 3) := by decide +kernel
theorem dX9_init_248 : decode cX9_init 248 = .ok (.iload_n 1, 1) := by decide +kernel
theorem dX9_init_249 : decode cX9_init 249 = .ok (.iconst (-1), 1) := by decide +kernel
theorem dX9_init_250 : decode cX9_init 250 = .ok (.iastore, 1) := by decide +kernel
theorem dX9_init_251 : decode cX9_init 251 = .ok (.aload_n 0, 1) := by decide +kernel
theorem dX9_init_252 : decode cX9_init 252 = .ok (.getfield 23, 3) := by decide +kernel
theorem dX9_init_255 : decode cX9_init 255 = .ok (.iload_n 1, 1) := by decide +kernel
theorem dX9_init_256 : decode cX9_init 256 = .ok (.iconst (-1), 1) := by decide +kernel
theorem dX9_init_257 : decode cX9_init 257 = .ok (.iastore, 1) := by decide +kernel
theorem dX9_init_258 : decode cX9_init 258 = .ok (.iinc 1 1, 3) := by decide +kernel
theorem dX9_init_261 : decode cX9_init 261 = .ok (.goto (-23), 3) := by decide +kernel
theorem dX9_init_264 : decode cX9_init 264 = .ok (.return_, 1) := by decide +kernel
theorem dX9_less_0 : decode cX9_less 0 = .ok (.iload_n 0, 1) := by decide +kernel
theorem dX9_less_1 : decode cX9_less 1 = .ok (.iload_n 1, 1) := by decide +kernel
theorem dX9_less_2 : decode cX9_less 2 = .ok (.if_icmp .ge 7, 3) := by decide +kernel
theorem dX9_less_5 : decode cX9_less 5 = .ok (.iload_n 0, 1) := by decide +kernel
theorem dX9_less_6 : decode cX9_less 6 = .ok (.goto 4, 3) := by decide +kernel
theorem dX9_less_9 : decode cX9_less 9 = .ok (.iload_n 1, 1) := by decide +kernel
theorem dX9_less_10 : decode cX9_less 10 = .ok (.ireturn, 1) := by decide +kernel
theorem dX9_isPlace_0 : decode cX9_isPlace 0 = .ok (.iload_n 0, 1) := by decide +kernel
theorem dX9_isPlace_1 : decode cX9_isPlace 1 = .ok (.ifCond .lt 13, 3) := by decide +kernel
theorem dX9_isPlace_4 : decode cX9_isPlace 4 = .ok (.iload_n 0, 1) := by decide +kernel
theorem dX9_isPlace_5 : decode cX9_isPlace 5 = .ok (.bipush 16, 2) := by decide +kernel
theorem dX9_isPlace_7 : decode cX9_isPlace 7 = .ok (.if_icmp .ge 7, 3) := by decide +kernel
theorem dX9_isPlace_10 : decode cX9_isPlace 10 = .ok (.iconst 1, 1) := by decide +kernel
theorem dX9_isPlace_11 : decode cX9_isPlace 11 = .ok (.goto 4, 3) := by decide +kernel
theorem dX9_isPlace_14 : decode cX9_isPlace 14 = .ok (.iconst 0, 1) := by decide +kernel
theorem dX9_isPlace_15 : decode cX9_isPlace 15 = .ok (.ireturn, 1) := by decide +kernel
theorem dX9_isRoom_0 : decode cX9_isRoom 0 = .ok (.iload_n 1, 1) := by decide +kernel
theorem dX9_isRoom_1 : decode cX9_isRoom 1 = .ok (.invokestatic 103, 3) := by decide +kernel
theorem dX9_isRoom_4 : decode cX9_isRoom 4 = .ok (.ifCond .eq 26, 3) := by decide +kernel
theorem dX9_isRoom_7 : decode cX9_isRoom 7 = .ok (.aload_n 0, 1) := by decide +kernel
theorem dX9_isRoom_8 : decode cX9_isRoom 8 = .ok (.getfield 13, 3) := by decide +kernel
theorem dX9_isRoom_11 : decode cX9_isRoom 11 = .ok (.iload_n 1, 1) := by decide +kernel
theorem dX9_isRoom_12 : decode cX9_isRoom 12 = .ok (.iaload, 1) := by decide +kernel
theorem dX9_isRoom_13 : decode cX9_isRoom 13 = .ok (.ifCond .lt 17, 3) := by decide +kernel
theorem dX9_isRoom_16 : decode cX9_isRoom 16 = .ok (.aload_n 0, 1) := by decide +kernel
theorem dX9_isRoom_17 : decode cX9_isRoom 17 = .ok (.getfield 13, 3) := by decide +kernel
theorem dX9_isRoom_20 : decode cX9_isRoom 20 = .ok (.iload_n 1, 1) := by decide +kernel
theorem dX9_isRoom_21 : decode cX9_isRoom 21 = .ok (.iaload, 1) := by decide +kernel
theorem dX9_isRoom_22 : decode cX9_isRoom 22 = .ok (.iconst 4, 1) := by decide +kernel
theorem dX9_isRoom_23 : decode cX9_isRoom 23 = .ok (.if_icmp .ge 7, 3) := by decide +kernel
theorem dX9_isRoom_26 : decode cX9_isRoom 26 = .ok (.iconst 1, 1) := by decide +kernel
theorem dX9_isRoom_27 : decode cX9_isRoom 27 = .ok (.goto 4, 3) := by decide +kernel
theorem dX9_isRoom_30 : decode cX9_isRoom 30 = .ok (.iconst 0, 1) := by decide +kernel
theorem dX9_isRoom_31 : decode cX9_isRoom 31 = .ok (.ireturn, 1) := by decide +kernel
theorem dX9_isNight_0 : decode cX9_isNight 0 = .ok (.iload_n 0, 1) := by decide +kernel
theorem dX9_isNight_1 : decode cX9_isNight 1 = .ok (.ifCond .lt 13, 3) := by decide +kernel
theorem dX9_isNight_4 : decode cX9_isNight 4 = .ok (.iload_n 0, 1) := by decide +kernel
theorem dX9_isNight_5 : decode cX9_isNight 5 = .ok (.bipush 60, 2) := by decide +kernel
theorem dX9_isNight_7 : decode cX9_isNight 7 = .ok (.if_icmp .ge 7, 3) := by decide +kernel
theorem dX9_isNight_10 : decode cX9_isNight 10 = .ok (.iconst 1, 1) := by decide +kernel
theorem dX9_isNight_11 : decode cX9_isNight 11 = .ok (.goto 4, 3) := by decide +kernel
theorem dX9_isNight_14 : decode cX9_isNight 14 = .ok (.iconst 0, 1) := by decide +kernel
theorem dX9_isNight_15 : decode cX9_isNight 15 = .ok (.ireturn, 1) := by decide +kernel
theorem dX9_isOpen_0 : decode cX9_isOpen 0 = .ok (.aload_n 0, 1) := by decide +kernel
theorem dX9_isOpen_1 : decode cX9_isOpen 1 = .ok (.getfield 33, 3) := by decide +kernel
theorem dX9_isOpen_4 : decode cX9_isOpen 4 = .ok (.iload_n 1, 1) := by decide +kernel
theorem dX9_isOpen_5 : decode cX9_isOpen 5 = .ok (.baload, 1) := by decide +kernel
theorem dX9_isOpen_6 : decode cX9_isOpen 6 = .ok (.ifCond .ne 32, 3) := by decide +kernel
theorem dX9_isOpen_9 : decode cX9_isOpen 9 = .ok (.iload_n 2, 1) := by decide +kernel
theorem dX9_isOpen_10 : decode cX9_isOpen 10 = .ok (.aload_n 0, 1) := by decide +kernel
theorem dX9_isOpen_11 : decode cX9_isOpen 11 = .ok (.getfield 26, 3) := by decide +kernel
theorem dX9_isOpen_14 : decode cX9_isOpen 14 = .ok (.iload_n 1, 1) := by decide +kernel
theorem dX9_isOpen_15 : decode cX9_isOpen 15 = .ok (.iaload, 1) := by decide +kernel
theorem dX9_isOpen_16 : decode cX9_isOpen 16 = .ok (.if_icmp .ge 22, 3) := by decide +kernel
theorem dX9_isOpen_19 : decode cX9_isOpen 19 = .ok (.aload_n 0, 1) := by decide +kernel
theorem dX9_isOpen_20 : decode cX9_isOpen 20 = .ok (.getfield 29, 3) := by decide +kernel
theorem dX9_isOpen_23 : decode cX9_isOpen 23 = .ok (.iload_n 1, 1) := by decide +kernel
theorem dX9_isOpen_24 : decode cX9_isOpen 24 = .ok (.laload, 1) := by decide +kernel
theorem dX9_isOpen_25 : decode cX9_isOpen 25 = .ok (.iload_n 2, 1) := by decide +kernel
theorem dX9_isOpen_26 : decode cX9_isOpen 26 = .ok (.lshr, 1) := by decide +kernel
theorem dX9_isOpen_27 : decode cX9_isOpen 27 = .ok (.lconst 1, 1) := by decide +kernel
theorem dX9_isOpen_28 : decode cX9_isOpen 28 = .ok (.land, 1) := by decide +kernel
theorem dX9_isOpen_29 : decode cX9_isOpen 29 = .ok (.lconst 0, 1) := by decide +kernel
theorem dX9_isOpen_30 : decode cX9_isOpen 30 = .ok (.lcmp, 1) := by decide +kernel
theorem dX9_isOpen_31 : decode cX9_isOpen 31 = .ok (.ifCond .ne 7, 3) := by decide +kernel
theorem dX9_isOpen_34 : decode cX9_isOpen 34 = .ok (.iconst 1, 1) := by decide +kernel
theorem dX9_isOpen_35 : decode cX9_isOpen 35 = .ok (.goto 4, 3) := by decide +kernel
theorem dX9_isOpen_38 : decode cX9_isOpen 38 = .ok (.iconst 0, 1) := by decide +kernel
theorem dX9_isOpen_39 : decode cX9_isOpen 39 = .ok (.ireturn, 1) := by decide +kernel
theorem dX9_room_0 : decode cX9_room 0 = .ok (.aload_n 0, 1) := by decide +kernel
theorem dX9_room_1 : decode cX9_room 1 = .ok (.iconst 0, 1) := by decide +kernel
theorem dX9_room_2 : decode cX9_room 2 = .ok (.putfield 1, 3) := by decide +kernel
theorem dX9_room_5 : decode cX9_room 5 = .ok (.iload_n 1, 1) := by decide +kernel
theorem dX9_room_6 : decode cX9_room 6 = .ok (.invokestatic 103, 3) := by decide +kernel
theorem dX9_room_9 : decode cX9_room 9 = .ok (.ifCond .eq 62, 3) := by decide +kernel
theorem dX9_room_12 : decode cX9_room 12 = .ok (.aload_n 0, 1) := by decide +kernel
theorem dX9_room_13 : decode cX9_room 13 = .ok (.getfield 13, 3) := by decide +kernel
theorem dX9_room_16 : decode cX9_room 16 = .ok (.iload_n 1, 1) := by decide +kernel
theorem dX9_room_17 : decode cX9_room 17 = .ok (.iaload, 1) := by decide +kernel
theorem dX9_room_18 : decode cX9_room 18 = .ok (.iconst (-1), 1) := by decide +kernel
theorem dX9_room_19 : decode cX9_room 19 = .ok (.if_icmp .ne 52, 3) := by decide +kernel
theorem dX9_room_22 : decode cX9_room 22 = .ok (.iload_n 2, 1) := by decide +kernel
theorem dX9_room_23 : decode cX9_room 23 = .ok (.ifCond .lt 48, 3) := by decide +kernel
theorem dX9_room_26 : decode cX9_room 26 = .ok (.iload_n 2, 1) := by decide +kernel
theorem dX9_room_27 : decode cX9_room 27 = .ok (.iconst 3, 1) := by decide +kernel
theorem dX9_room_28 : decode cX9_room 28 = .ok (.if_icmp .gt 43, 3) := by decide +kernel
theorem dX9_room_31 : decode cX9_room 31 = .ok (.iload_n 3, 1) := by decide +kernel
theorem dX9_room_32 : decode cX9_room 32 = .ok (.ifCond .lt 39, 3) := by decide +kernel
theorem dX9_room_35 : decode cX9_room 35 = .ok (.iload_n 3, 1) := by decide +kernel
theorem dX9_room_36 : decode cX9_room 36 = .ok (.bipush 9, 2) := by decide +kernel
theorem dX9_room_38 : decode cX9_room 38 = .ok (.if_icmp .gt 33, 3) := by decide +kernel
theorem dX9_room_41 : decode cX9_room 41 = .ok (.iload 5, 2) := by decide +kernel
theorem dX9_room_43 : decode cX9_room 43 = .ok (.ifCond .lt 28, 3) := by decide +kernel
theorem dX9_room_46 : decode cX9_room 46 = .ok (.iload 5, 2) := by decide +kernel
theorem dX9_room_48 : decode cX9_room 48 = .ok (.bipush 60, 2) := by decide +kernel
theorem dX9_room_50 : decode cX9_room 50 = .ok (.if_icmp .gt 21, 3) := by decide +kernel
theorem dX9_room_53 : decode cX9_room 53 = .ok (.iload_n 2, 1) := by decide +kernel
theorem dX9_room_54 : decode cX9_room 54 = .ok (.iconst 3, 1) := by decide +kernel
theorem dX9_room_55 : decode cX9_room 55 = .ok (.if_icmp .ne 18, 3) := by decide +kernel
theorem dX9_room_58 : decode cX9_room 58 = .ok (.iload 4, 2) := by decide +kernel
theorem dX9_room_60 : decode cX9_room 60 = .ok (.iconst 2, 1) := by decide +kernel
theorem dX9_room_61 : decode cX9_room 61 = .ok (.if_icmp .lt 10, 3) := by decide +kernel
theorem dX9_room_64 : decode cX9_room 64 = .ok (.iload 4, 2) := by decide +kernel
theorem dX9_room_66 : decode cX9_room 66 = .ok (.bipush 6, 2) := by decide +kernel
theorem dX9_room_68 : decode cX9_room 68 = .ok (.if_icmp .le 5, 3) := by decide +kernel
theorem dX9_room_71 : decode cX9_room 71 = .ok (.iconst 0, 1) := by decide +kernel
theorem dX9_room_72 : decode cX9_room 72 = .ok (.ireturn, 1) := by decide +kernel
theorem dX9_room_73 : decode cX9_room 73 = .ok (.aload_n 0, 1) := by decide +kernel
theorem dX9_room_74 : decode cX9_room 74 = .ok (.getfield 13, 3) := by decide +kernel
theorem dX9_room_77 : decode cX9_room 77 = .ok (.iload_n 1, 1) := by decide +kernel
theorem dX9_room_78 : decode cX9_room 78 = .ok (.iload_n 2, 1) := by decide +kernel
theorem dX9_room_79 : decode cX9_room 79 = .ok (.iastore, 1) := by decide +kernel
theorem dX9_room_80 : decode cX9_room 80 = .ok (.aload_n 0, 1) := by decide +kernel
theorem dX9_room_81 : decode cX9_room 81 = .ok (.getfield 17, 3) := by decide +kernel
theorem dX9_room_84 : decode cX9_room 84 = .ok (.iload_n 1, 1) := by decide +kernel
theorem dX9_room_85 : decode cX9_room 85 = .ok (.iload_n 3, 1) := by decide +kernel
theorem dX9_room_86 : decode cX9_room 86 = .ok (.iastore, 1) := by decide +kernel
theorem dX9_room_87 : decode cX9_room 87 = .ok (.aload_n 0, 1) := by decide +kernel
theorem dX9_room_88 : decode cX9_room 88 = .ok (.getfield 20, 3) := by decide +kernel
theorem dX9_room_91 : decode cX9_room 91 = .ok (.iload_n 1, 1) := by decide +kernel
theorem dX9_room_92 : decode cX9_room 92 = .ok (.iload_n 2, 1) := by decide +kernel
theorem dX9_room_93 : decode cX9_room 93 = .ok (.iconst 3, 1) := by decide +kernel
theorem dX9_room_94 : decode cX9_room 94 = .ok (.if_icmp .ne 8, 3) := by decide +kernel
theorem dX9_room_97 : decode cX9_room 97 = .ok (.iload 4, 2) := by decide +kernel
theorem dX9_room_99 : decode cX9_room 99 = .ok (.goto 12, 3) := by decide +kernel
theorem dX9_room_102 : decode cX9_room 102 = .ok (.iload_n 2, 1) := by decide +kernel
theorem dX9_room_103 : decode cX9_room 103 = .ok (.ifCond .ne 7, 3) := by decide +kernel
theorem dX9_room_106 : decode cX9_room 106 = .ok (.iconst 1, 1) := by decide +kernel
theorem dX9_room_107 : decode cX9_room 107 = .ok (.goto 4, 3) := by decide +kernel
theorem dX9_room_110 : decode cX9_room 110 = .ok (.iconst 2, 1) := by decide +kernel
theorem dX9_room_111 : decode cX9_room 111 = .ok (.iastore, 1) := by decide +kernel
theorem dX9_room_112 : decode cX9_room 112 = .ok (.aload_n 0, 1) := by decide +kernel
theorem dX9_room_113 : decode cX9_room 113 = .ok (.getfield 26, 3) := by decide +kernel
theorem dX9_room_116 : decode cX9_room 116 = .ok (.iload_n 1, 1) := by decide +kernel
theorem dX9_room_117 : decode cX9_room 117 = .ok (.iload 5, 2) := by decide +kernel
theorem dX9_room_119 : decode cX9_room 119 = .ok (.iastore, 1) := by decide +kernel
theorem dX9_room_120 : decode cX9_room 120 = .ok (.iconst 1, 1) := by decide +kernel
theorem dX9_room_121 : decode cX9_room 121 = .ok (.ireturn, 1) := by decide +kernel
theorem dX9_store_0 : decode cX9_store 0 = .ok (.aload_n 0, 1) := by decide +kernel
theorem dX9_store_1 : decode cX9_store 1 = .ok (.iconst 0, 1) := by decide +kernel
theorem dX9_store_2 : decode cX9_store 2 = .ok (.putfield 1, 3) := by decide +kernel
theorem dX9_store_5 : decode cX9_store 5 = .ok (.iload_n 1, 1) := by decide +kernel
theorem dX9_store_6 : decode cX9_store 6 = .ok (.invokestatic 103, 3) := by decide +kernel
theorem dX9_store_9 : decode cX9_store 9 = .ok (.ifCond .eq 13, 3) := by decide +kernel
theorem dX9_store_12 : decode cX9_store 12 = .ok (.aload_n 0, 1) := by decide +kernel
theorem dX9_store_13 : decode cX9_store 13 = .ok (.getfield 13, 3) := by decide +kernel
theorem dX9_store_16 : decode cX9_store 16 = .ok (.iload_n 1, 1) := by decide +kernel
theorem dX9_store_17 : decode cX9_store 17 = .ok (.iaload, 1) := by decide +kernel
theorem dX9_store_18 : decode cX9_store 18 = .ok (.iconst (-1), 1) := by decide +kernel
theorem dX9_store_19 : decode cX9_store 19 = .ok (.if_icmp .eq 5, 3) := by decide +kernel
theorem dX9_store_22 : decode cX9_store 22 = .ok (.iconst 0, 1) := by decide +kernel
theorem dX9_store_23 : decode cX9_store 23 = .ok (.ireturn, 1) := by decide +kernel
theorem dX9_store_24 : decode cX9_store 24 = .ok (.aload_n 0, 1) := by decide +kernel
theorem dX9_store_25 : decode cX9_store 25 = .ok (.getfield 13, 3) := by decide +kernel
theorem dX9_store_28 : decode cX9_store 28 = .ok (.iload_n 1, 1) := by decide +kernel
theorem dX9_store_29 : decode cX9_store 29 = .ok (.iconst 4, 1) := by decide +kernel
theorem dX9_store_30 : decode cX9_store 30 = .ok (.iastore, 1) := by decide +kernel
theorem dX9_store_31 : decode cX9_store 31 = .ok (.iconst 1, 1) := by decide +kernel
theorem dX9_store_32 : decode cX9_store 32 = .ok (.ireturn, 1) := by decide +kernel
theorem dX9_door_0 : decode cX9_door 0 = .ok (.aload_n 0, 1) := by decide +kernel
theorem dX9_door_1 : decode cX9_door 1 = .ok (.iconst 0, 1) := by decide +kernel
theorem dX9_door_2 : decode cX9_door 2 = .ok (.putfield 1, 3) := by decide +kernel
theorem dX9_door_5 : decode cX9_door 5 = .ok (.iload_n 1, 1) := by decide +kernel
theorem dX9_door_6 : decode cX9_door 6 = .ok (.invokestatic 103, 3) := by decide +kernel
theorem dX9_door_9 : decode cX9_door 9 = .ok (.ifCond .eq 73, 3) := by decide +kernel
theorem dX9_door_12 : decode cX9_door 12 = .ok (.iload_n 1, 1) := by decide +kernel
theorem dX9_door_13 : decode cX9_door 13 = .ok (.iconst 1, 1) := by decide +kernel
theorem dX9_door_14 : decode cX9_door 14 = .ok (.iadd, 1) := by decide +kernel
theorem dX9_door_15 : decode cX9_door 15 = .ok (.invokestatic 103, 3) := by decide +kernel
theorem dX9_door_18 : decode cX9_door 18 = .ok (.ifCond .eq 64, 3) := by decide +kernel
theorem dX9_door_21 : decode cX9_door 21 = .ok (.aload_n 0, 1) := by decide +kernel
theorem dX9_door_22 : decode cX9_door 22 = .ok (.getfield 13, 3) := by decide +kernel
theorem dX9_door_25 : decode cX9_door 25 = .ok (.iload_n 1, 1) := by decide +kernel
theorem dX9_door_26 : decode cX9_door 26 = .ok (.iaload, 1) := by decide +kernel
theorem dX9_door_27 : decode cX9_door 27 = .ok (.iconst 1, 1) := by decide +kernel
theorem dX9_door_28 : decode cX9_door 28 = .ok (.if_icmp .ne 54, 3) := by decide +kernel
theorem dX9_door_31 : decode cX9_door 31 = .ok (.aload_n 0, 1) := by decide +kernel
theorem dX9_door_32 : decode cX9_door 32 = .ok (.getfield 13, 3) := by decide +kernel
theorem dX9_door_35 : decode cX9_door 35 = .ok (.iload_n 1, 1) := by decide +kernel
theorem dX9_door_36 : decode cX9_door 36 = .ok (.iconst 1, 1) := by decide +kernel
theorem dX9_door_37 : decode cX9_door 37 = .ok (.iadd, 1) := by decide +kernel
theorem dX9_door_38 : decode cX9_door 38 = .ok (.iaload, 1) := by decide +kernel
theorem dX9_door_39 : decode cX9_door 39 = .ok (.iconst 1, 1) := by decide +kernel
theorem dX9_door_40 : decode cX9_door 40 = .ok (.if_icmp .ne 42, 3) := by decide +kernel
theorem dX9_door_43 : decode cX9_door 43 = .ok (.aload_n 0, 1) := by decide +kernel
theorem dX9_door_44 : decode cX9_door 44 = .ok (.getfield 17, 3) := by decide +kernel
theorem dX9_door_47 : decode cX9_door 47 = .ok (.iload_n 1, 1) := by decide +kernel
theorem dX9_door_48 : decode cX9_door 48 = .ok (.iaload, 1) := by decide +kernel
theorem dX9_door_49 : decode cX9_door 49 = .ok (.aload_n 0, 1) := by decide +kernel
theorem dX9_door_50 : decode cX9_door 50 = .ok (.getfield 17, 3) := by decide +kernel
theorem dX9_door_53 : decode cX9_door 53 = .ok (.iload_n 1, 1) := by decide +kernel
theorem dX9_door_54 : decode cX9_door 54 = .ok (.iconst 1, 1) := by decide +kernel
theorem dX9_door_55 : decode cX9_door 55 = .ok (.iadd, 1) := by decide +kernel
theorem dX9_door_56 : decode cX9_door 56 = .ok (.iaload, 1) := by decide +kernel
theorem dX9_door_57 : decode cX9_door 57 = .ok (.if_icmp .ne 25, 3) := by decide +kernel
theorem dX9_door_60 : decode cX9_door 60 = .ok (.aload_n 0, 1) := by decide +kernel
theorem dX9_door_61 : decode cX9_door 61 = .ok (.getfield 23, 3) := by decide +kernel
theorem dX9_door_64 : decode cX9_door 64 = .ok (.iload_n 1, 1) := by decide +kernel
theorem dX9_door_65 : decode cX9_door 65 = .ok (.iaload, 1) := by decide +kernel
theorem dX9_door_66 : decode cX9_door 66 = .ok (.iconst (-1), 1) := by decide +kernel
theorem dX9_door_67 : decode cX9_door 67 = .ok (.if_icmp .ne 15, 3) := by decide +kernel
theorem dX9_door_70 : decode cX9_door 70 = .ok (.aload_n 0, 1) := by decide +kernel
theorem dX9_door_71 : decode cX9_door 71 = .ok (.getfield 23, 3) := by decide +kernel
theorem dX9_door_74 : decode cX9_door 74 = .ok (.iload_n 1, 1) := by decide +kernel
theorem dX9_door_75 : decode cX9_door 75 = .ok (.iconst 1, 1) := by decide +kernel
theorem dX9_door_76 : decode cX9_door 76 = .ok (.iadd, 1) := by decide +kernel
theorem dX9_door_77 : decode cX9_door 77 = .ok (.iaload, 1) := by decide +kernel
theorem dX9_door_78 : decode cX9_door 78 = .ok (.iconst (-1), 1) := by decide +kernel
theorem dX9_door_79 : decode cX9_door 79 = .ok (.if_icmp .eq 5, 3) := by decide +kernel
theorem dX9_door_82 : decode cX9_door 82 = .ok (.iconst 0, 1) := by decide +kernel
theorem dX9_door_83 : decode cX9_door 83 = .ok (.ireturn, 1) := by decide +kernel
theorem dX9_door_84 : decode cX9_door 84 = .ok (.aload_n 0, 1) := by decide +kernel
theorem dX9_door_85 : decode cX9_door 85 = .ok (.getfield 23, 3) := by decide +kernel
theorem dX9_door_88 : decode cX9_door 88 = .ok (.iload_n 1, 1) := by decide +kernel
theorem dX9_door_89 : decode cX9_door 89 = .ok (.iload_n 1, 1) := by decide +kernel
theorem dX9_door_90 : decode cX9_door 90 = .ok (.iconst 1, 1) := by decide +kernel
theorem dX9_door_91 : decode cX9_door 91 = .ok (.iadd, 1) := by decide +kernel
theorem dX9_door_92 : decode cX9_door 92 = .ok (.iastore, 1) := by decide +kernel
theorem dX9_door_93 : decode cX9_door 93 = .ok (.aload_n 0, 1) := by decide +kernel
theorem dX9_door_94 : decode cX9_door 94 = .ok (.getfield 23, 3) := by decide +kernel
theorem dX9_door_97 : decode cX9_door 97 = .ok (.iload_n 1, 1) := by decide +kernel
theorem dX9_door_98 : decode cX9_door 98 = .ok (.iconst 1, 1) := by decide +kernel
theorem dX9_door_99 : decode cX9_door 99 = .ok (.iadd, 1) := by decide +kernel
theorem dX9_door_100 : decode cX9_door 100 = .ok (.iload_n 1, 1) := by decide +kernel
theorem dX9_door_101 : decode cX9_door 101 = .ok (.iastore, 1) := by decide +kernel
theorem dX9_door_102 : decode cX9_door 102 = .ok (.iconst 1, 1) := by decide +kernel
theorem dX9_door_103 : decode cX9_door 103 = .ok (.ireturn, 1) := by decide +kernel
theorem dX9_isSpan_0 : decode cX9_isSpan 0 = .ok (.iload_n 0, 1) := by decide +kernel
theorem dX9_isSpan_1 : decode cX9_isSpan 1 = .ok (.ifCond .lt 18, 3) := by decide +kernel
theorem dX9_isSpan_4 : decode cX9_isSpan 4 = .ok (.iload_n 0, 1) := by decide +kernel
theorem dX9_isSpan_5 : decode cX9_isSpan 5 = .ok (.iload_n 1, 1) := by decide +kernel
theorem dX9_isSpan_6 : decode cX9_isSpan 6 = .ok (.if_icmp .gt 13, 3) := by decide +kernel
theorem dX9_isSpan_9 : decode cX9_isSpan 9 = .ok (.iload_n 1, 1) := by decide +kernel
theorem dX9_isSpan_10 : decode cX9_isSpan 10 = .ok (.bipush 60, 2) := by decide +kernel
theorem dX9_isSpan_12 : decode cX9_isSpan 12 = .ok (.if_icmp .gt 7, 3) := by decide +kernel
theorem dX9_isSpan_15 : decode cX9_isSpan 15 = .ok (.iconst 1, 1) := by decide +kernel
theorem dX9_isSpan_16 : decode cX9_isSpan 16 = .ok (.goto 4, 3) := by decide +kernel
theorem dX9_isSpan_19 : decode cX9_isSpan 19 = .ok (.iconst 0, 1) := by decide +kernel
theorem dX9_isSpan_20 : decode cX9_isSpan 20 = .ok (.ireturn, 1) := by decide +kernel
theorem dX9_shut_0 : decode cX9_shut 0 = .ok (.aload_n 0, 1) := by decide +kernel
theorem dX9_shut_1 : decode cX9_shut 1 = .ok (.iconst 0, 1) := by decide +kernel
theorem dX9_shut_2 : decode cX9_shut 2 = .ok (.putfield 1, 3) := by decide +kernel
theorem dX9_shut_5 : decode cX9_shut 5 = .ok (.aload_n 0, 1) := by decide +kernel
theorem dX9_shut_6 : decode cX9_shut 6 = .ok (.iload_n 1, 1) := by decide +kernel
theorem dX9_shut_7 : decode cX9_shut 7 = .ok (.invokevirtual 107, 3) := by decide +kernel
theorem dX9_shut_10 : decode cX9_shut 10 = .ok (.ifCond .eq 20, 3) := by decide +kernel
theorem dX9_shut_13 : decode cX9_shut 13 = .ok (.aload_n 0, 1) := by decide +kernel
theorem dX9_shut_14 : decode cX9_shut 14 = .ok (.getfield 33, 3) := by decide +kernel
theorem dX9_shut_17 : decode cX9_shut 17 = .ok (.iload_n 1, 1) := by decide +kernel
theorem dX9_shut_18 : decode cX9_shut 18 = .ok (.baload, 1) := by decide +kernel
theorem dX9_shut_19 : decode cX9_shut 19 = .ok (.ifCond .ne 11, 3) := by decide +kernel
theorem dX9_shut_22 : decode cX9_shut 22 = .ok (.iload_n 2, 1) := by decide +kernel
theorem dX9_shut_23 : decode cX9_shut 23 = .ok (.iload_n 3, 1) := by decide +kernel
theorem dX9_shut_24 : decode cX9_shut 24 = .ok (.invokestatic 110, 3) := by decide +kernel
theorem dX9_shut_27 : decode cX9_shut 27 = .ok (.ifCond .ne 5, 3) := by decide +kernel
theorem dX9_shut_30 : decode cX9_shut 30 = .ok (.iconst (-1), 1) := by decide +kernel
theorem dX9_shut_31 : decode cX9_shut 31 = .ok (.ireturn, 1) := by decide +kernel
theorem dX9_shut_32 : decode cX9_shut 32 = .ok (.iconst 0, 1) := by decide +kernel
theorem dX9_shut_33 : decode cX9_shut 33 = .ok (.istore 5, 2) := by decide +kernel
theorem dX9_shut_35 : decode cX9_shut 35 = .ok (.iload_n 2, 1) := by decide +kernel
theorem dX9_shut_36 : decode cX9_shut 36 = .ok (.istore 6, 2) := by decide +kernel
theorem dX9_shut_38 : decode cX9_shut 38 = .ok (.iload 6, 2) := by decide +kernel
theorem dX9_shut_40 : decode cX9_shut 40 = .ok (.iload_n 3, 1) := by decide +kernel
theorem dX9_shut_41 : decode cX9_shut 41 = .ok (.if_icmp .ge 69, 3) := by decide +kernel
theorem dX9_shut_44 : decode cX9_shut 44 = .ok (.iload 6, 2) := by decide +kernel
theorem dX9_shut_46 : decode cX9_shut 46 = .ok (.aload_n 0, 1) := by decide +kernel
theorem dX9_shut_47 : decode cX9_shut 47 = .ok (.getfield 26, 3) := by decide +kernel
theorem dX9_shut_50 : decode cX9_shut 50 = .ok (.iload_n 1, 1) := by decide +kernel
theorem dX9_shut_51 : decode cX9_shut 51 = .ok (.iaload, 1) := by decide +kernel
theorem dX9_shut_52 : decode cX9_shut 52 = .ok (.if_icmp .ge 58, 3) := by decide +kernel
theorem dX9_shut_55 : decode cX9_shut 55 = .ok (.aload_n 0, 1) := by decide +kernel
theorem dX9_shut_56 : decode cX9_shut 56 = .ok (.getfield 29, 3) := by decide +kernel
theorem dX9_shut_59 : decode cX9_shut 59 = .ok (.iload_n 1, 1) := by decide +kernel
theorem dX9_shut_60 : decode cX9_shut 60 = .ok (.laload, 1) := by decide +kernel
theorem dX9_shut_61 : decode cX9_shut 61 = .ok (.iload 6, 2) := by decide +kernel
theorem dX9_shut_63 : decode cX9_shut 63 = .ok (.lshr, 1) := by decide +kernel
theorem dX9_shut_64 : decode cX9_shut 64 = .ok (.lconst 1, 1) := by decide +kernel
theorem dX9_shut_65 : decode cX9_shut 65 = .ok (.land, 1) := by decide +kernel
theorem dX9_shut_66 : decode cX9_shut 66 = .ok (.lconst 1, 1) := by decide +kernel
theorem dX9_shut_67 : decode cX9_shut 67 = .ok (.lcmp, 1) := by decide +kernel
theorem dX9_shut_68 : decode cX9_shut 68 = .ok (.ifCond .ne 7, 3) := by decide +kernel
theorem dX9_shut_71 : decode cX9_shut 71 = .ok (.iconst 1, 1) := by decide +kernel
theorem dX9_shut_72 : decode cX9_shut 72 = .ok (.goto 4, 3) := by decide +kernel
theorem dX9_shut_75 : decode cX9_shut 75 = .ok (.iconst 0, 1) := by decide +kernel
theorem dX9_shut_76 : decode cX9_shut 76 = .ok (.istore 7, 2) := by decide +kernel
theorem dX9_shut_78 : decode cX9_shut 78 = .ok (.iload 7, 2) := by decide +kernel
theorem dX9_shut_80 : decode cX9_shut 80 = .ok (.iload 4, 2) := by decide +kernel
theorem dX9_shut_82 : decode cX9_shut 82 = .ok (.if_icmp .ne 6, 3) := by decide +kernel
theorem dX9_shut_85 : decode cX9_shut 85 = .ok (.goto 19, 3) := by decide +kernel
theorem dX9_shut_88 : decode cX9_shut 88 = .ok (.iinc 5 1, 3) := by decide +kernel
theorem dX9_shut_91 : decode cX9_shut 91 = .ok (.aload_n 0, 1) := by decide +kernel
theorem dX9_shut_92 : decode cX9_shut 92 = .ok (.getfield 29, 3) := by decide +kernel
theorem dX9_shut_95 : decode cX9_shut 95 = .ok (.iload_n 1, 1) := by decide +kernel
theorem dX9_shut_96 : decode cX9_shut 96 = .ok (.dup2, 1) := by decide +kernel
theorem dX9_shut_97 : decode cX9_shut 97 = .ok (.laload, 1) := by decide +kernel
theorem dX9_shut_98 : decode cX9_shut 98 = .ok (.lconst 1, 1) := by decide +kernel
theorem dX9_shut_99 : decode cX9_shut 99 = .ok (.iload 6, 2) := by decide +kernel
theorem dX9_shut_101 : decode cX9_shut 101 = .ok (.lshl, 1) := by decide +kernel
theorem dX9_shut_102 : decode cX9_shut 102 = .ok (.lxor, 1) := by decide +kernel
theorem dX9_shut_103 : decode cX9_shut 103 = .ok (.lastore, 1) := by decide +kernel
theorem dX9_shut_104 : decode cX9_shut 104 = .ok (.iinc 6 1, 3) := by decide +kernel
theorem dX9_shut_107 : decode cX9_shut 107 = .ok (.goto (-69), 3) := by decide +kernel
theorem dX9_shut_110 : decode cX9_shut 110 = .ok (.iload 5, 2) := by decide +kernel
theorem dX9_shut_112 : decode cX9_shut 112 = .ok (.ireturn, 1) := by decide +kernel
theorem dX9_open_0 : decode cX9_open 0 = .ok (.aload_n 0, 1) := by decide +kernel
theorem dX9_open_1 : decode cX9_open 1 = .ok (.iconst 0, 1) := by decide +kernel
theorem dX9_open_2 : decode cX9_open 2 = .ok (.putfield 1, 3) := by decide +kernel
theorem dX9_open_5 : decode cX9_open 5 = .ok (.aload_n 0, 1) := by decide +kernel
theorem dX9_open_6 : decode cX9_open 6 = .ok (.iload_n 1, 1) := by decide +kernel
theorem dX9_open_7 : decode cX9_open 7 = .ok (.invokevirtual 107, 3) := by decide +kernel
theorem dX9_open_10 : decode cX9_open 10 = .ok (.ifCond .eq 33, 3) := by decide +kernel
theorem dX9_open_13 : decode cX9_open 13 = .ok (.iload_n 2, 1) := by decide +kernel
theorem dX9_open_14 : decode cX9_open 14 = .ok (.ifCond .lt 29, 3) := by decide +kernel
theorem dX9_open_17 : decode cX9_open 17 = .ok (.iload_n 2, 1) := by decide +kernel
theorem dX9_open_18 : decode cX9_open 18 = .ok (.bipush 60, 2) := by decide +kernel
theorem dX9_open_20 : decode cX9_open 20 = .ok (.aload_n 0, 1) := by decide +kernel
theorem dX9_open_21 : decode cX9_open 21 = .ok (.getfield 33, 3) := by decide +kernel
theorem dX9_open_24 : decode cX9_open 24 = .ok (.iload_n 1, 1) := by decide +kernel
theorem dX9_open_25 : decode cX9_open 25 = .ok (.baload, 1) := by decide +kernel
theorem dX9_open_26 : decode cX9_open 26 = .ok (.ifCond .eq 7, 3) := by decide +kernel
theorem dX9_open_29 : decode cX9_open 29 = .ok (.iconst 0, 1) := by decide +kernel
theorem dX9_open_30 : decode cX9_open 30 = .ok (.goto 9, 3) := by decide +kernel
theorem dX9_open_33 : decode cX9_open 33 = .ok (.aload_n 0, 1) := by decide +kernel
theorem dX9_open_34 : decode cX9_open 34 = .ok (.getfield 26, 3) := by decide +kernel
theorem dX9_open_37 : decode cX9_open 37 = .ok (.iload_n 1, 1) := by decide +kernel
theorem dX9_open_38 : decode cX9_open 38 = .ok (.iaload, 1) := by decide +kernel
theorem dX9_open_39 : decode cX9_open 39 = .ok (.isub, 1) := by decide +kernel
theorem dX9_open_40 : decode cX9_open 40 = .ok (.if_icmp .le 5, 3) := by decide +kernel
theorem dX9_open_43 : decode cX9_open 43 = .ok (.iconst (-1), 1) := by decide +kernel
theorem dX9_open_44 : decode cX9_open 44 = .ok (.ireturn, 1) := by decide +kernel
theorem dX9_open_45 : decode cX9_open 45 = .ok (.aload_n 0, 1) := by decide +kernel
theorem dX9_open_46 : decode cX9_open 46 = .ok (.getfield 33, 3) := by decide +kernel
theorem dX9_open_49 : decode cX9_open 49 = .ok (.iload_n 1, 1) := by decide +kernel
theorem dX9_open_50 : decode cX9_open 50 = .ok (.baload, 1) := by decide +kernel
theorem dX9_open_51 : decode cX9_open 51 = .ok (.ifCond .eq 24, 3) := by decide +kernel
theorem dX9_open_54 : decode cX9_open 54 = .ok (.aload_n 0, 1) := by decide +kernel
theorem dX9_open_55 : decode cX9_open 55 = .ok (.getfield 33, 3) := by decide +kernel
theorem dX9_open_58 : decode cX9_open 58 = .ok (.iload_n 1, 1) := by decide +kernel
theorem dX9_open_59 : decode cX9_open 59 = .ok (.iconst 0, 1) := by decide +kernel
theorem dX9_open_60 : decode cX9_open 60 = .ok (.bastore, 1) := by decide +kernel
theorem dX9_open_61 : decode cX9_open 61 = .ok (.aload_n 0, 1) := by decide +kernel
theorem dX9_open_62 : decode cX9_open 62 = .ok (.getfield 26, 3) := by decide +kernel
theorem dX9_open_65 : decode cX9_open 65 = .ok (.iload_n 1, 1) := by decide +kernel
theorem dX9_open_66 : decode cX9_open 66 = .ok (.iconst 0, 1) := by decide +kernel
theorem dX9_open_67 : decode cX9_open 67 = .ok (.iastore, 1) := by decide +kernel
theorem dX9_open_68 : decode cX9_open 68 = .ok (.aload_n 0, 1) := by decide +kernel
theorem dX9_open_69 : decode cX9_open 69 = .ok (.getfield 29, 3) := by decide +kernel
theorem dX9_open_72 : decode cX9_open 72 = .ok (.iload_n 1, 1) := by decide +kernel
theorem dX9_open_73 : decode cX9_open 73 = .ok (.lconst 0, 1) := by decide +kernel
theorem dX9_open_74 : decode cX9_open 74 = .ok (.lastore, 1) := by decide +kernel
theorem dX9_open_75 : decode cX9_open 75 = .ok (.aload_n 0, 1) := by decide +kernel
theorem dX9_open_76 : decode cX9_open 76 = .ok (.getfield 26, 3) := by decide +kernel
theorem dX9_open_79 : decode cX9_open 79 = .ok (.iload_n 1, 1) := by decide +kernel
theorem dX9_open_80 : decode cX9_open 80 = .ok (.dup2, 1) := by decide +kernel
theorem dX9_open_81 : decode cX9_open 81 = .ok (.iaload, 1) := by decide +kernel
theorem dX9_open_82 : decode cX9_open 82 = .ok (.iload_n 2, 1) := by decide +kernel
theorem dX9_open_83 : decode cX9_open 83 = .ok (.iadd, 1) := by decide +kernel
theorem dX9_open_84 : decode cX9_open 84 = .ok (.iastore, 1) := by decide +kernel
theorem dX9_open_85 : decode cX9_open 85 = .ok (.aload_n 0, 1) := by decide +kernel
theorem dX9_open_86 : decode cX9_open 86 = .ok (.getfield 26, 3) := by decide +kernel
theorem dX9_open_89 : decode cX9_open 89 = .ok (.iload_n 1, 1) := by decide +kernel
theorem dX9_open_90 : decode cX9_open 90 = .ok (.iaload, 1) := by decide +kernel
theorem dX9_open_91 : decode cX9_open 91 = .ok (.ireturn, 1) := by decide +kernel
theorem dX9_close_0 : decode cX9_close 0 = .ok (.aload_n 0, 1) := by decide +kernel
theorem dX9_close_1 : decode cX9_close 1 = .ok (.iconst 0, 1) := by decide +kernel
theorem dX9_close_2 : decode cX9_close 2 = .ok (.putfield 1, 3) := by decide +kernel
theorem dX9_close_5 : decode cX9_close 5 = .ok (.aload_n 0, 1) := by decide +kernel
theorem dX9_close_6 : decode cX9_close 6 = .ok (.iload_n 1, 1) := by decide +kernel
theorem dX9_close_7 : decode cX9_close 7 = .ok (.invokevirtual 107, 3) := by decide +kernel
theorem dX9_close_10 : decode cX9_close 10 = .ok (.ifCond .eq 12, 3) := by decide +kernel
theorem dX9_close_13 : decode cX9_close 13 = .ok (.aload_n 0, 1) := by decide +kernel
theorem dX9_close_14 : decode cX9_close 14 = .ok (.getfield 33, 3) := by decide +kernel
theorem dX9_close_17 : decode cX9_close 17 = .ok (.iload_n 1, 1) := by decide +kernel
theorem dX9_close_18 : decode cX9_close 18 = .ok (.baload, 1) := by decide +kernel
theorem dX9_close_19 : decode cX9_close 19 = .ok (.ifCond .eq 5, 3) := by decide +kernel
theorem dX9_close_22 : decode cX9_close 22 = .ok (.iconst 0, 1) := by decide +kernel
theorem dX9_close_23 : decode cX9_close 23 = .ok (.ireturn, 1) := by decide +kernel
theorem dX9_close_24 : decode cX9_close 24 = .ok (.aload_n 0, 1) := by decide +kernel
theorem dX9_close_25 : decode cX9_close 25 = .ok (.getfield 33, 3) := by decide +kernel
theorem dX9_close_28 : decode cX9_close 28 = .ok (.iload_n 1, 1) := by decide +kernel
theorem dX9_close_29 : decode cX9_close 29 = .ok (.iconst 1, 1) := by decide +kernel
theorem dX9_close_30 : decode cX9_close 30 = .ok (.bastore, 1) := by decide +kernel
theorem dX9_close_31 : decode cX9_close 31 = .ok (.iconst 1, 1) := by decide +kernel
theorem dX9_close_32 : decode cX9_close 32 = .ok (.ireturn, 1) := by decide +kernel
theorem dX9_look_0 : decode cX9_look 0 = .ok (.aload_n 0, 1) := by decide +kernel
theorem dX9_look_1 : decode cX9_look 1 = .ok (.iconst 0, 1) := by decide +kernel
theorem dX9_look_2 : decode cX9_look 2 = .ok (.putfield 1, 3) := by decide +kernel
theorem dX9_look_5 : decode cX9_look 5 = .ok (.iload_n 1, 1) := by decide +kernel
theorem dX9_look_6 : decode cX9_look 6 = .ok (.invokestatic 103, 3) := by decide +kernel
theorem dX9_look_9 : decode cX9_look 9 = .ok (.ifCond .ne 6, 3) := by decide +kernel
theorem dX9_look_12 : decode cX9_look 12 = .ok (.bipush (-2), 2) := by decide +kernel
theorem dX9_look_14 : decode cX9_look 14 = .ok (.ireturn, 1) := by decide +kernel
theorem dX9_look_15 : decode cX9_look 15 = .ok (.iload_n 2, 1) := by decide +kernel
theorem dX9_look_16 : decode cX9_look 16 = .ok (.ifCond .ne 10, 3) := by decide +kernel
theorem dX9_look_19 : decode cX9_look 19 = .ok (.aload_n 0, 1) := by decide +kernel
theorem dX9_look_20 : decode cX9_look 20 = .ok (.getfield 13, 3) := by decide +kernel
theorem dX9_look_23 : decode cX9_look 23 = .ok (.iload_n 1, 1) := by decide +kernel
theorem dX9_look_24 : decode cX9_look 24 = .ok (.iaload, 1) := by decide +kernel
theorem dX9_look_25 : decode cX9_look 25 = .ok (.ireturn, 1) := by decide +kernel
theorem dX9_look_26 : decode cX9_look 26 = .ok (.aload_n 0, 1) := by decide +kernel
theorem dX9_look_27 : decode cX9_look 27 = .ok (.iload_n 1, 1) := by decide +kernel
theorem dX9_look_28 : decode cX9_look 28 = .ok (.invokevirtual 107, 3) := by decide +kernel
theorem dX9_look_31 : decode cX9_look 31 = .ok (.ifCond .eq 12, 3) := by decide +kernel
theorem dX9_look_34 : decode cX9_look 34 = .ok (.iload_n 2, 1) := by decide +kernel
theorem dX9_look_35 : decode cX9_look 35 = .ok (.ifCond .lt 8, 3) := by decide +kernel
theorem dX9_look_38 : decode cX9_look 38 = .ok (.iload_n 2, 1) := by decide +kernel
theorem dX9_look_39 : decode cX9_look 39 = .ok (.iconst 3, 1) := by decide +kernel
theorem dX9_look_40 : decode cX9_look 40 = .ok (.if_icmp .le 5, 3) := by decide +kernel
theorem dX9_look_43 : decode cX9_look 43 = .ok (.iconst (-1), 1) := by decide +kernel
theorem dX9_look_44 : decode cX9_look 44 = .ok (.ireturn, 1) := by decide +kernel
theorem dX9_look_45 : decode cX9_look 45 = .ok (.iload_n 2, 1) := by decide +kernel
theorem dX9_look_46 : decode cX9_look 46 = .ok (.iconst 1, 1) := by decide +kernel
theorem dX9_look_47 : decode cX9_look 47 = .ok (.if_icmp .ne 12, 3) := by decide +kernel
theorem dX9_look_50 : decode cX9_look 50 = .ok (.aload_n 0, 1) := by decide +kernel
theorem dX9_look_51 : decode cX9_look 51 = .ok (.getfield 17, 3) := by decide +kernel
theorem dX9_look_54 : decode cX9_look 54 = .ok (.iload_n 1, 1) := by decide +kernel
theorem dX9_look_55 : decode cX9_look 55 = .ok (.iaload, 1) := by decide +kernel
theorem dX9_look_56 : decode cX9_look 56 = .ok (.goto 23, 3) := by decide +kernel
theorem dX9_look_59 : decode cX9_look 59 = .ok (.iload_n 2, 1) := by decide +kernel
theorem dX9_look_60 : decode cX9_look 60 = .ok (.iconst 2, 1) := by decide +kernel
theorem dX9_look_61 : decode cX9_look 61 = .ok (.if_icmp .ne 12, 3) := by decide +kernel
theorem dX9_look_64 : decode cX9_look 64 = .ok (.aload_n 0, 1) := by decide +kernel
theorem dX9_look_65 : decode cX9_look 65 = .ok (.getfield 20, 3) := by decide +kernel
theorem dX9_look_68 : decode cX9_look 68 = .ok (.iload_n 1, 1) := by decide +kernel
theorem dX9_look_69 : decode cX9_look 69 = .ok (.iaload, 1) := by decide +kernel
theorem dX9_look_70 : decode cX9_look 70 = .ok (.goto 9, 3) := by decide +kernel
theorem dX9_look_73 : decode cX9_look 73 = .ok (.aload_n 0, 1) := by decide +kernel
theorem dX9_look_74 : decode cX9_look 74 = .ok (.getfield 23, 3) := by decide +kernel
theorem dX9_look_77 : decode cX9_look 77 = .ok (.iload_n 1, 1) := by decide +kernel
theorem dX9_look_78 : decode cX9_look 78 = .ok (.iaload, 1) := by decide +kernel
theorem dX9_look_79 : decode cX9_look 79 = .ok (.ireturn, 1) := by decide +kernel
theorem dX9_night_0 : decode cX9_night 0 = .ok (.aload_n 0, 1) := by decide +kernel
theorem dX9_night_1 : decode cX9_night 1 = .ok (.iconst 0, 1) := by decide +kernel
theorem dX9_night_2 : decode cX9_night 2 = .ok (.putfield 1, 3) := by decide +kernel
theorem dX9_night_5 : decode cX9_night 5 = .ok (.iload_n 2, 1) := by decide +kernel
theorem dX9_night_6 : decode cX9_night 6 = .ok (.invokestatic 114, 3) := by decide +kernel
theorem dX9_night_9 : decode cX9_night 9 = .ok (.ifCond .ne 6, 3) := by decide +kernel
theorem dX9_night_12 : decode cX9_night 12 = .ok (.bipush (-4), 2) := by decide +kernel
theorem dX9_night_14 : decode cX9_night 14 = .ok (.ireturn, 1) := by decide +kernel
theorem dX9_night_15 : decode cX9_night 15 = .ok (.aload_n 0, 1) := by decide +kernel
theorem dX9_night_16 : decode cX9_night 16 = .ok (.iload_n 1, 1) := by decide +kernel
theorem dX9_night_17 : decode cX9_night 17 = .ok (.invokevirtual 107, 3) := by decide +kernel
theorem dX9_night_20 : decode cX9_night 20 = .ok (.ifCond .ne 6, 3) := by decide +kernel
theorem dX9_night_23 : decode cX9_night 23 = .ok (.bipush (-3), 2) := by decide +kernel
theorem dX9_night_25 : decode cX9_night 25 = .ok (.ireturn, 1) := by decide +kernel
theorem dX9_night_26 : decode cX9_night 26 = .ok (.aload_n 0, 1) := by decide +kernel
theorem dX9_night_27 : decode cX9_night 27 = .ok (.getfield 33, 3) := by decide +kernel
theorem dX9_night_30 : decode cX9_night 30 = .ok (.iload_n 1, 1) := by decide +kernel
theorem dX9_night_31 : decode cX9_night 31 = .ok (.baload, 1) := by decide +kernel
theorem dX9_night_32 : decode cX9_night 32 = .ok (.ifCond .eq 6, 3) := by decide +kernel
theorem dX9_night_35 : decode cX9_night 35 = .ok (.bipush (-2), 2) := by decide +kernel
theorem dX9_night_37 : decode cX9_night 37 = .ok (.ireturn, 1) := by decide +kernel
theorem dX9_night_38 : decode cX9_night 38 = .ok (.iload_n 2, 1) := by decide +kernel
theorem dX9_night_39 : decode cX9_night 39 = .ok (.aload_n 0, 1) := by decide +kernel
theorem dX9_night_40 : decode cX9_night 40 = .ok (.getfield 26, 3) := by decide +kernel
theorem dX9_night_43 : decode cX9_night 43 = .ok (.iload_n 1, 1) := by decide +kernel
theorem dX9_night_44 : decode cX9_night 44 = .ok (.iaload, 1) := by decide +kernel
theorem dX9_night_45 : decode cX9_night 45 = .ok (.if_icmp .lt 7, 3) := by decide +kernel
theorem dX9_night_48 : decode cX9_night 48 = .ok (.iconst (-1), 1) := by decide +kernel
theorem dX9_night_49 : decode cX9_night 49 = .ok (.goto 23, 3) := by decide +kernel
theorem dX9_night_52 : decode cX9_night 52 = .ok (.aload_n 0, 1) := by decide +kernel
theorem dX9_night_53 : decode cX9_night 53 = .ok (.getfield 29, 3) := by decide +kernel
theorem dX9_night_56 : decode cX9_night 56 = .ok (.iload_n 1, 1) := by decide +kernel
theorem dX9_night_57 : decode cX9_night 57 = .ok (.laload, 1) := by decide +kernel
theorem dX9_night_58 : decode cX9_night 58 = .ok (.iload_n 2, 1) := by decide +kernel
theorem dX9_night_59 : decode cX9_night 59 = .ok (.lshr, 1) := by decide +kernel
theorem dX9_night_60 : decode cX9_night 60 = .ok (.lconst 1, 1) := by decide +kernel
theorem dX9_night_61 : decode cX9_night 61 = .ok (.land, 1) := by decide +kernel
theorem dX9_night_62 : decode cX9_night 62 = .ok (.lconst 1, 1) := by decide +kernel
theorem dX9_night_63 : decode cX9_night 63 = .ok (.lcmp, 1) := by decide +kernel
theorem dX9_night_64 : decode cX9_night 64 = .ok (.ifCond .ne 7, 3) := by decide +kernel
theorem dX9_night_67 : decode cX9_night 67 = .ok (.iconst 0, 1) := by decide +kernel
theorem dX9_night_68 : decode cX9_night 68 = .ok (.goto 4, 3) := by decide +kernel
theorem dX9_night_71 : decode cX9_night 71 = .ok (.iconst 1, 1) := by decide +kernel
theorem dX9_night_72 : decode cX9_night 72 = .ok (.ireturn, 1) := by decide +kernel
theorem dX9_is_0 : decode cX9_is 0 = .ok (.iload_n 1, 1) := by decide +kernel
theorem dX9_is_1 : decode cX9_is 1 = .ok (.ifCond .lt 15, 3) := by decide +kernel
theorem dX9_is_4 : decode cX9_is 4 = .ok (.iload_n 1, 1) := by decide +kernel
theorem dX9_is_5 : decode cX9_is 5 = .ok (.aload_n 0, 1) := by decide +kernel
theorem dX9_is_6 : decode cX9_is 6 = .ok (.getfield 117, 3) := by decide +kernel
theorem dX9_is_9 : decode cX9_is 9 = .ok (.if_icmp .ge 7, 3) := by decide +kernel
theorem dX9_is_12 : decode cX9_is 12 = .ok (.iconst 1, 1) := by decide +kernel
theorem dX9_is_13 : decode cX9_is 13 = .ok (.goto 4, 3) := by decide +kernel
theorem dX9_is_16 : decode cX9_is 16 = .ok (.iconst 0, 1) := by decide +kernel
theorem dX9_is_17 : decode cX9_is 17 = .ok (.ireturn, 1) := by decide +kernel
theorem dX9_stands_0 : decode cX9_stands 0 = .ok (.aload_n 0, 1) := by decide +kernel
theorem dX9_stands_1 : decode cX9_stands 1 = .ok (.getfield 37, 3) := by decide +kernel
theorem dX9_stands_4 : decode cX9_stands 4 = .ok (.iload_n 1, 1) := by decide +kernel
theorem dX9_stands_5 : decode cX9_stands 5 = .ok (.iaload, 1) := by decide +kernel
theorem dX9_stands_6 : decode cX9_stands 6 = .ok (.iconst 2, 1) := by decide +kernel
theorem dX9_stands_7 : decode cX9_stands 7 = .ok (.if_icmp .gt 7, 3) := by decide +kernel
theorem dX9_stands_10 : decode cX9_stands 10 = .ok (.iconst 1, 1) := by decide +kernel
theorem dX9_stands_11 : decode cX9_stands 11 = .ok (.goto 4, 3) := by decide +kernel
theorem dX9_stands_14 : decode cX9_stands 14 = .ok (.iconst 0, 1) := by decide +kernel
theorem dX9_stands_15 : decode cX9_stands 15 = .ok (.ireturn, 1) := by decide +kernel
theorem dX9_wants_0 : decode cX9_wants 0 = .ok (.aload_n 0, 1) := by decide +kernel
theorem dX9_wants_1 : decode cX9_wants 1 = .ok (.iload_n 1, 1) := by decide +kernel
theorem dX9_wants_2 : decode cX9_wants 2 = .ok (.invokevirtual 120, 3) := by decide +kernel
theorem dX9_wants_5 : decode cX9_wants 5 = .ok (.ifCond .eq 27, 3) := by decide +kernel
theorem dX9_wants_8 : decode cX9_wants 8 = .ok (.aload_n 0, 1) := by decide +kernel
theorem dX9_wants_9 : decode cX9_wants 9 = .ok (.getfield 46, 3) := by decide +kernel
theorem dX9_wants_12 : decode cX9_wants 12 = .ok (.iload_n 1, 1) := by decide +kernel
theorem dX9_wants_13 : decode cX9_wants 13 = .ok (.iaload, 1) := by decide +kernel
theorem dX9_wants_14 : decode cX9_wants 14 = .ok (.iload_n 2, 1) := by decide +kernel
theorem dX9_wants_15 : decode cX9_wants 15 = .ok (.if_icmp .gt 17, 3) := by decide +kernel
theorem dX9_wants_18 : decode cX9_wants 18 = .ok (.iload_n 2, 1) := by decide +kernel
theorem dX9_wants_19 : decode cX9_wants 19 = .ok (.aload_n 0, 1) := by decide +kernel
theorem dX9_wants_20 : decode cX9_wants 20 = .ok (.getfield 49, 3) := by decide +kernel
theorem dX9_wants_23 : decode cX9_wants 23 = .ok (.iload_n 1, 1) := by decide +kernel
theorem dX9_wants_24 : decode cX9_wants 24 = .ok (.iaload, 1) := by decide +kernel
theorem dX9_wants_25 : decode cX9_wants 25 = .ok (.if_icmp .ge 7, 3) := by decide +kernel
theorem dX9_wants_28 : decode cX9_wants 28 = .ok (.iconst 1, 1) := by decide +kernel
theorem dX9_wants_29 : decode cX9_wants 29 = .ok (.goto 4, 3) := by decide +kernel
theorem dX9_wants_32 : decode cX9_wants 32 = .ok (.iconst 0, 1) := by decide +kernel
theorem dX9_wants_33 : decode cX9_wants 33 = .ok (.ireturn, 1) := by decide +kernel
theorem dX9_fresh_0 : decode cX9_fresh 0 = .ok (.aload_n 0, 1) := by decide +kernel
theorem dX9_fresh_1 : decode cX9_fresh 1 = .ok (.iload_n 1, 1) := by decide +kernel
theorem dX9_fresh_2 : decode cX9_fresh 2 = .ok (.putfield 123, 3) := by decide +kernel
theorem dX9_fresh_5 : decode cX9_fresh 5 = .ok (.iconst 0, 1) := by decide +kernel
theorem dX9_fresh_6 : decode cX9_fresh 6 = .ok (.istore_n 2, 1) := by decide +kernel
theorem dX9_fresh_7 : decode cX9_fresh 7 = .ok (.iload_n 2, 1) := by decide +kernel
theorem dX9_fresh_8 : decode cX9_fresh 8 = .ok (.bipush 16, 2) := by decide +kernel
theorem dX9_fresh_10 : decode cX9_fresh 10 = .ok (.if_icmp .ge 16, 3) := by decide +kernel
theorem dX9_fresh_13 : decode cX9_fresh 13 = .ok (.aload_n 0, 1) := by decide +kernel
theorem dX9_fresh_14 : decode cX9_fresh 14 = .ok (.getfield 67, 3) := by decide +kernel
theorem dX9_fresh_17 : decode cX9_fresh 17 = .ok (.iload_n 2, 1) := by decide +kernel
theorem dX9_fresh_18 : decode cX9_fresh 18 = .ok (.iconst 0, 1) := by decide +kernel
theorem dX9_fresh_19 : decode cX9_fresh 19 = .ok (.iastore, 1) := by decide +kernel
theorem dX9_fresh_20 : decode cX9_fresh 20 = .ok (.iinc 2 1, 3) := by decide +kernel
theorem dX9_fresh_23 : decode cX9_fresh 23 = .ok (.goto (-16), 3) := by decide +kernel
theorem dX9_fresh_26 : decode cX9_fresh 26 = .ok (.return_, 1) := by decide +kernel
theorem dX9_isFree_0 : decode cX9_isFree 0 = .ok (.aload_n 0, 1) := by decide +kernel
theorem dX9_isFree_1 : decode cX9_isFree 1 = .ok (.iload_n 1, 1) := by decide +kernel
theorem dX9_isFree_2 : decode cX9_isFree 2 = .ok (.aload_n 0, 1) := by decide +kernel
theorem dX9_isFree_3 : decode cX9_isFree 3 = .ok (.getfield 123, 3) := by decide +kernel
theorem dX9_isFree_6 : decode cX9_isFree 6 = .ok (.invokevirtual 126, 3) := by decide +kernel
theorem dX9_isFree_9 : decode cX9_isFree 9 = .ok (.ifCond .eq 16, 3) := by decide +kernel
theorem dX9_isFree_12 : decode cX9_isFree 12 = .ok (.aload_n 0, 1) := by decide +kernel
theorem dX9_isFree_13 : decode cX9_isFree 13 = .ok (.getfield 67, 3) := by decide +kernel
theorem dX9_isFree_16 : decode cX9_isFree 16 = .ok (.iload_n 1, 1) := by decide +kernel
theorem dX9_isFree_17 : decode cX9_isFree 17 = .ok (.iaload, 1) := by decide +kernel
theorem dX9_isFree_18 : decode cX9_isFree 18 = .ok (.ifCond .ne 7, 3) := by decide +kernel
theorem dX9_isFree_21 : decode cX9_isFree 21 = .ok (.iconst 1, 1) := by decide +kernel
theorem dX9_isFree_22 : decode cX9_isFree 22 = .ok (.goto 4, 3) := by decide +kernel
theorem dX9_isFree_25 : decode cX9_isFree 25 = .ok (.iconst 0, 1) := by decide +kernel
theorem dX9_isFree_26 : decode cX9_isFree 26 = .ok (.ireturn, 1) := by decide +kernel
theorem dX9_poured_0 : decode cX9_poured 0 = .ok (.iconst 0, 1) := by decide +kernel
theorem dX9_poured_1 : decode cX9_poured 1 = .ok (.istore_n 2, 1) := by decide +kernel
theorem dX9_poured_2 : decode cX9_poured 2 = .ok (.iconst 0, 1) := by decide +kernel
theorem dX9_poured_3 : decode cX9_poured 3 = .ok (.istore_n 3, 1) := by decide +kernel
theorem dX9_poured_4 : decode cX9_poured 4 = .ok (.iconst 0, 1) := by decide +kernel
theorem dX9_poured_5 : decode cX9_poured 5 = .ok (.istore 4, 2) := by decide +kernel
theorem dX9_poured_7 : decode cX9_poured 7 = .ok (.iconst 0, 1) := by decide +kernel
theorem dX9_poured_8 : decode cX9_poured 8 = .ok (.istore 5, 2) := by decide +kernel
theorem dX9_poured_10 : decode cX9_poured 10 = .ok (.iconst 0, 1) := by decide +kernel
theorem dX9_poured_11 : decode cX9_poured 11 = .ok (.istore 6, 2) := by decide +kernel
theorem dX9_poured_13 : decode cX9_poured 13 = .ok (.iconst 0, 1) := by decide +kernel
theorem dX9_poured_14 : decode cX9_poured 14 = .ok (.istore 7, 2) := by decide +kernel
theorem dX9_poured_16 : decode cX9_poured 16 = .ok (.iload 7, 2) := by decide +kernel
theorem dX9_poured_18 : decode cX9_poured 18 = .ok (.bipush 16, 2) := by decide +kernel
theorem dX9_poured_20 : decode cX9_poured 20 = .ok (.if_icmp .ge 173, 3) := by decide +kernel
theorem dX9_poured_23 : decode cX9_poured 23 = .ok (.aload_n 0, 1) := by decide +kernel
theorem dX9_poured_24 : decode cX9_poured 24 = .ok (.iload 7, 2) := by decide +kernel
theorem dX9_poured_26 : decode cX9_poured 26 = .ok (.invokevirtual 107, 3) := by decide +kernel
theorem dX9_poured_29 : decode cX9_poured 29 = .ok (.ifCond .eq 158, 3) := by decide +kernel
theorem dX9_poured_32 : decode cX9_poured 32 = .ok (.aload_n 0, 1) := by decide +kernel
theorem dX9_poured_33 : decode cX9_poured 33 = .ok (.iload 7, 2) := by decide +kernel
theorem dX9_poured_35 : decode cX9_poured 35 = .ok (.aload_n 0, 1) := by decide +kernel
theorem dX9_poured_36 : decode cX9_poured 36 = .ok (.getfield 123, 3) := by decide +kernel
theorem dX9_poured_39 : decode cX9_poured 39 = .ok (.invokevirtual 126, 3) := by decide +kernel
theorem dX9_poured_42 : decode cX9_poured 42 = .ok (.ifCond .ne 6, 3) := by decide +kernel
theorem dX9_poured_45 : decode cX9_poured 45 = .ok (.goto 142, 3) := by decide +kernel
theorem dX9_poured_48 : decode cX9_poured 48 = .ok (.aload_n 0, 1) := by decide +kernel
theorem dX9_poured_49 : decode cX9_poured 49 = .ok (.getfield 13, 3) := by decide +kernel
theorem dX9_poured_52 : decode cX9_poured 52 = .ok (.iload 7, 2) := by decide +kernel
theorem dX9_poured_54 : decode cX9_poured 54 = .ok (.iaload, 1) := by decide +kernel
theorem dX9_poured_55 : decode cX9_poured 55 = .ok (.iconst 3, 1) := by decide +kernel
theorem dX9_poured_56 : decode cX9_poured 56 = .ok (.if_icmp .ne 45, 3) := by decide +kernel
theorem dX9_poured_59 : decode cX9_poured 59 = .ok (.iconst 0, 1) := by decide +kernel
theorem dX9_poured_60 : decode cX9_poured 60 = .ok (.istore 8, 2) := by decide +kernel
theorem dX9_poured_62 : decode cX9_poured 62 = .ok (.iload 8, 2) := by decide +kernel
theorem dX9_poured_64 : decode cX9_poured 64 = .ok (.aload_n 0, 1) := by decide +kernel
theorem dX9_poured_65 : decode cX9_poured 65 = .ok (.getfield 20, 3) := by decide +kernel
theorem dX9_poured_68 : decode cX9_poured 68 = .ok (.iload 7, 2) := by decide +kernel
theorem dX9_poured_70 : decode cX9_poured 70 = .ok (.iaload, 1) := by decide +kernel
theorem dX9_poured_71 : decode cX9_poured 71 = .ok (.if_icmp .ge 27, 3) := by decide +kernel
theorem dX9_poured_74 : decode cX9_poured 74 = .ok (.aload_n 0, 1) := by decide +kernel
theorem dX9_poured_75 : decode cX9_poured 75 = .ok (.getfield 67, 3) := by decide +kernel
theorem dX9_poured_78 : decode cX9_poured 78 = .ok (.iload 7, 2) := by decide +kernel
theorem dX9_poured_80 : decode cX9_poured 80 = .ok (.iaload, 1) := by decide +kernel
theorem dX9_poured_81 : decode cX9_poured 81 = .ok (.iload 8, 2) := by decide +kernel
theorem dX9_poured_83 : decode cX9_poured 83 = .ok (.ishr, 1) := by decide +kernel
theorem dX9_poured_84 : decode cX9_poured 84 = .ok (.iconst 1, 1) := by decide +kernel
theorem dX9_poured_85 : decode cX9_poured 85 = .ok (.iand, 1) := by decide +kernel
theorem dX9_poured_86 : decode cX9_poured 86 = .ok (.ifCond .ne 6, 3) := by decide +kernel
theorem dX9_poured_89 : decode cX9_poured 89 = .ok (.iinc 2 1, 3) := by decide +kernel
theorem dX9_poured_92 : decode cX9_poured 92 = .ok (.iinc 8 1, 3) := by decide +kernel
theorem dX9_poured_95 : decode cX9_poured 95 = .ok (.goto (-33), 3) := by decide +kernel
theorem dX9_poured_98 : decode cX9_poured 98 = .ok (.goto 89, 3) := by decide +kernel
theorem dX9_poured_101 : decode cX9_poured 101 = .ok (.aload_n 0, 1) := by decide +kernel
theorem dX9_poured_102 : decode cX9_poured 102 = .ok (.getfield 67, 3) := by decide +kernel
theorem dX9_poured_105 : decode cX9_poured 105 = .ok (.iload 7, 2) := by decide +kernel
theorem dX9_poured_107 : decode cX9_poured 107 = .ok (.iaload, 1) := by decide +kernel
theorem dX9_poured_108 : decode cX9_poured 108 = .ok (.ifCond .ne 79, 3) := by decide +kernel
theorem dX9_poured_111 : decode cX9_poured 111 = .ok (.aload_n 0, 1) := by decide +kernel
theorem dX9_poured_112 : decode cX9_poured 112 = .ok (.getfield 13, 3) := by decide +kernel
theorem dX9_poured_115 : decode cX9_poured 115 = .ok (.iload 7, 2) := by decide +kernel
theorem dX9_poured_117 : decode cX9_poured 117 = .ok (.iaload, 1) := by decide +kernel
theorem dX9_poured_118 : decode cX9_poured 118 = .ok (.ifCond .ne 9, 3) := by decide +kernel
theorem dX9_poured_121 : decode cX9_poured 121 = .ok (.iinc 3 1, 3) := by decide +kernel
theorem dX9_poured_124 : decode cX9_poured 124 = .ok (.goto 23, 3) := by decide +kernel
theorem dX9_poured_127 : decode cX9_poured 127 = .ok (.aload_n 0, 1) := by decide +kernel
theorem dX9_poured_128 : decode cX9_poured 128 = .ok (.getfield 13, 3) := by decide +kernel
theorem dX9_poured_131 : decode cX9_poured 131 = .ok (.iload 7, 2) := by decide +kernel
theorem dX9_poured_133 : decode cX9_poured 133 = .ok (.iaload, 1) := by decide +kernel
theorem dX9_poured_134 : decode cX9_poured 134 = .ok (.iconst 2, 1) := by decide +kernel
theorem dX9_poured_135 : decode cX9_poured 135 = .ok (.if_icmp .ne 9, 3) := by decide +kernel
theorem dX9_poured_138 : decode cX9_poured 138 = .ok (.iinc 5 1, 3) := by decide +kernel
theorem dX9_poured_141 : decode cX9_poured 141 = .ok (.goto 6, 3) := by decide +kernel
theorem dX9_poured_144 : decode cX9_poured 144 = .ok (.iinc 4 1, 3) := by decide +kernel
theorem dX9_poured_147 : decode cX9_poured 147 = .ok (.aload_n 0, 1) := by decide +kernel
theorem dX9_poured_148 : decode cX9_poured 148 = .ok (.getfield 13, 3) := by decide +kernel
theorem dX9_poured_151 : decode cX9_poured 151 = .ok (.iload 7, 2) := by decide +kernel
theorem dX9_poured_153 : decode cX9_poured 153 = .ok (.iaload, 1) := by decide +kernel
theorem dX9_poured_154 : decode cX9_poured 154 = .ok (.iconst 1, 1) := by decide +kernel
theorem dX9_poured_155 : decode cX9_poured 155 = .ok (.if_icmp .ne 32, 3) := by decide +kernel
theorem dX9_poured_158 : decode cX9_poured 158 = .ok (.aload_n 0, 1) := by decide +kernel
theorem dX9_poured_159 : decode cX9_poured 159 = .ok (.getfield 23, 3) := by decide +kernel
theorem dX9_poured_162 : decode cX9_poured 162 = .ok (.iload 7, 2) := by decide +kernel
theorem dX9_poured_164 : decode cX9_poured 164 = .ok (.iaload, 1) := by decide +kernel
theorem dX9_poured_165 : decode cX9_poured 165 = .ok (.iload 7, 2) := by decide +kernel
theorem dX9_poured_167 : decode cX9_poured 167 = .ok (.if_icmp .le 20, 3) := by decide +kernel
theorem dX9_poured_170 : decode cX9_poured 170 = .ok (.aload_n 0, 1) := by decide +kernel
theorem dX9_poured_171 : decode cX9_poured 171 = .ok (.aload_n 0, 1) := by decide +kernel
theorem dX9_poured_172 : decode cX9_poured 172 = .ok (.getfield 23, 3) := by decide +kernel
theorem dX9_poured_175 : decode cX9_poured 175 = .ok (.iload 7, 2) := by decide +kernel
theorem dX9_poured_177 : decode cX9_poured 177 = .ok (.iaload, 1) := by decide +kernel
theorem dX9_poured_178 : decode cX9_poured 178 = .ok (.invokevirtual 129, 3) := by decide +kernel
theorem dX9_poured_181 : decode cX9_poured 181 = .ok (.ifCond .eq 6, 3) := by decide +kernel
theorem dX9_poured_184 : decode cX9_poured 184 = .ok (.iinc 6 1, 3) := by decide +kernel
theorem dX9_poured_187 : decode cX9_poured 187 = .ok (.iinc 7 1, 3) := by decide +kernel
theorem dX9_poured_190 : decode cX9_poured 190 = .ok (.goto (-174), 3) := by decide +kernel
theorem dX9_poured_193 : decode cX9_poured 193 = .ok (.iload_n 1, 1) := by decide +kernel
theorem dX9_poured_194 : decode cX9_poured 194 = .ok (.iload 6, 2) := by decide +kernel
theorem dX9_poured_196 : decode cX9_poured 196 = .ok (.invokestatic 132, 3) := by decide +kernel
theorem dX9_poured_199 : decode cX9_poured 199 = .ok (.istore 7, 2) := by decide +kernel
theorem dX9_poured_201 : decode cX9_poured 201 = .ok (.iload 4, 2) := by decide +kernel
theorem dX9_poured_203 : decode cX9_poured 203 = .ok (.iconst 2, 1) := by decide +kernel
theorem dX9_poured_204 : decode cX9_poured 204 = .ok (.iload 7, 2) := by decide +kernel
theorem dX9_poured_206 : decode cX9_poured 206 = .ok (.imul, 1) := by decide +kernel
theorem dX9_poured_207 : decode cX9_poured 207 = .ok (.isub, 1) := by decide +kernel
theorem dX9_poured_208 : decode cX9_poured 208 = .ok (.istore 4, 2) := by decide +kernel
theorem dX9_poured_210 : decode cX9_poured 210 = .ok (.iload 7, 2) := by decide +kernel
theorem dX9_poured_212 : decode cX9_poured 212 = .ok (.aload_n 0, 1) := by decide +kernel
theorem dX9_poured_213 : decode cX9_poured 213 = .ok (.getfield 73, 3) := by decide +kernel
theorem dX9_poured_216 : decode cX9_poured 216 = .ok (.iconst 0, 1) := by decide +kernel
theorem dX9_poured_217 : decode cX9_poured 217 = .ok (.iaload, 1) := by decide +kernel
theorem dX9_poured_218 : decode cX9_poured 218 = .ok (.iload_n 2, 1) := by decide +kernel
theorem dX9_poured_219 : decode cX9_poured 219 = .ok (.invokestatic 132, 3) := by decide +kernel
theorem dX9_poured_222 : decode cX9_poured 222 = .ok (.iadd, 1) := by decide +kernel
theorem dX9_poured_223 : decode cX9_poured 223 = .ok (.istore 8, 2) := by decide +kernel
theorem dX9_poured_225 : decode cX9_poured 225 = .ok (.aload_n 0, 1) := by decide +kernel
theorem dX9_poured_226 : decode cX9_poured 226 = .ok (.getfield 73, 3) := by decide +kernel
theorem dX9_poured_229 : decode cX9_poured 229 = .ok (.iconst 3, 1) := by decide +kernel
theorem dX9_poured_230 : decode cX9_poured 230 = .ok (.iaload, 1) := by decide +kernel
theorem dX9_poured_231 : decode cX9_poured 231 = .ok (.iload 5, 2) := by decide +kernel
theorem dX9_poured_233 : decode cX9_poured 233 = .ok (.invokestatic 132, 3) := by decide +kernel
theorem dX9_poured_236 : decode cX9_poured 236 = .ok (.istore 9, 2) := by decide +kernel
theorem dX9_poured_238 : decode cX9_poured 238 = .ok (.iload 8, 2) := by decide +kernel
theorem dX9_poured_240 : decode cX9_poured 240 = .ok (.iload 9, 2) := by decide +kernel
theorem dX9_poured_242 : decode cX9_poured 242 = .ok (.iadd, 1) := by decide +kernel
theorem dX9_poured_243 : decode cX9_poured 243 = .ok (.istore 8, 2) := by decide +kernel
theorem dX9_poured_245 : decode cX9_poured 245 = .ok (.iload 5, 2) := by decide +kernel
theorem dX9_poured_247 : decode cX9_poured 247 = .ok (.iload 9, 2) := by decide +kernel
theorem dX9_poured_249 : decode cX9_poured 249 = .ok (.isub, 1) := by decide +kernel
theorem dX9_poured_250 : decode cX9_poured 250 = .ok (.istore 5, 2) := by decide +kernel
theorem dX9_poured_252 : decode cX9_poured 252 = .ok (.aload_n 0, 1) := by decide +kernel
theorem dX9_poured_253 : decode cX9_poured 253 = .ok (.getfield 73, 3) := by decide +kernel
theorem dX9_poured_256 : decode cX9_poured 256 = .ok (.iconst 2, 1) := by decide +kernel
theorem dX9_poured_257 : decode cX9_poured 257 = .ok (.iaload, 1) := by decide +kernel
theorem dX9_poured_258 : decode cX9_poured 258 = .ok (.iload 4, 2) := by decide +kernel
theorem dX9_poured_260 : decode cX9_poured 260 = .ok (.invokestatic 132, 3) := by decide +kernel
theorem dX9_poured_263 : decode cX9_poured 263 = .ok (.istore 10, 2) := by decide +kernel
theorem dX9_poured_265 : decode cX9_poured 265 = .ok (.aload_n 0, 1) := by decide +kernel
theorem dX9_poured_266 : decode cX9_poured 266 = .ok (.getfield 73, 3) := by decide +kernel
theorem dX9_poured_269 : decode cX9_poured 269 = .ok (.iconst 2, 1) := by decide +kernel
theorem dX9_poured_270 : decode cX9_poured 270 = .ok (.iaload, 1) := by decide +kernel
theorem dX9_poured_271 : decode cX9_poured 271 = .ok (.iload 10, 2) := by decide +kernel
theorem dX9_poured_273 : decode cX9_poured 273 = .ok (.isub, 1) := by decide +kernel
theorem dX9_poured_274 : decode cX9_poured 274 = .ok (.iload 5, 2) := by decide +kernel
theorem dX9_poured_276 : decode cX9_poured 276 = .ok (.invokestatic 132, 3) := by decide +kernel
theorem dX9_poured_279 : decode cX9_poured 279 = .ok (.istore 11, 2) := by decide +kernel
theorem dX9_poured_281 : decode cX9_poured 281 = .ok (.iload 8, 2) := by decide +kernel
theorem dX9_poured_283 : decode cX9_poured 283 = .ok (.iload 10, 2) := by decide +kernel
theorem dX9_poured_285 : decode cX9_poured 285 = .ok (.iload 11, 2) := by decide +kernel
theorem dX9_poured_287 : decode cX9_poured 287 = .ok (.iadd, 1) := by decide +kernel
theorem dX9_poured_288 : decode cX9_poured 288 = .ok (.iadd, 1) := by decide +kernel
theorem dX9_poured_289 : decode cX9_poured 289 = .ok (.istore 8, 2) := by decide +kernel
theorem dX9_poured_291 : decode cX9_poured 291 = .ok (.iload 8, 2) := by decide +kernel
theorem dX9_poured_293 : decode cX9_poured 293 = .ok (.aload_n 0, 1) := by decide +kernel
theorem dX9_poured_294 : decode cX9_poured 294 = .ok (.getfield 73, 3) := by decide +kernel
theorem dX9_poured_297 : decode cX9_poured 297 = .ok (.iconst 1, 1) := by decide +kernel
theorem dX9_poured_298 : decode cX9_poured 298 = .ok (.iaload, 1) := by decide +kernel
theorem dX9_poured_299 : decode cX9_poured 299 = .ok (.iload_n 3, 1) := by decide +kernel
theorem dX9_poured_300 : decode cX9_poured 300 = .ok (.iload 4, 2) := by decide +kernel
theorem dX9_poured_302 : decode cX9_poured 302 = .ok (.iadd, 1) := by decide +kernel
theorem dX9_poured_303 : decode cX9_poured 303 = .ok (.iload 10, 2) := by decide +kernel
theorem dX9_poured_305 : decode cX9_poured 305 = .ok (.isub, 1) := by decide +kernel
theorem dX9_poured_306 : decode cX9_poured 306 = .ok (.iload 5, 2) := by decide +kernel
theorem dX9_poured_308 : decode cX9_poured 308 = .ok (.iadd, 1) := by decide +kernel
theorem dX9_poured_309 : decode cX9_poured 309 = .ok (.iload 11, 2) := by decide +kernel
theorem dX9_poured_311 : decode cX9_poured 311 = .ok (.isub, 1) := by decide +kernel
theorem dX9_poured_312 : decode cX9_poured 312 = .ok (.invokestatic 132, 3) := by decide +kernel
theorem dX9_poured_315 : decode cX9_poured 315 = .ok (.iadd, 1) := by decide +kernel
theorem dX9_poured_316 : decode cX9_poured 316 = .ok (.ireturn, 1) := by decide +kernel
theorem dX9_canAll_0 : decode cX9_canAll 0 = .ok (.iconst 0, 1) := by decide +kernel
theorem dX9_canAll_1 : decode cX9_canAll 1 = .ok (.istore_n 1, 1) := by decide +kernel
theorem dX9_canAll_2 : decode cX9_canAll 2 = .ok (.iconst 0, 1) := by decide +kernel
theorem dX9_canAll_3 : decode cX9_canAll 3 = .ok (.istore_n 2, 1) := by decide +kernel
theorem dX9_canAll_4 : decode cX9_canAll 4 = .ok (.iload_n 2, 1) := by decide +kernel
theorem dX9_canAll_5 : decode cX9_canAll 5 = .ok (.iconst 5, 1) := by decide +kernel
theorem dX9_canAll_6 : decode cX9_canAll 6 = .ok (.if_icmp .ge 30, 3) := by decide +kernel
theorem dX9_canAll_9 : decode cX9_canAll 9 = .ok (.aload_n 0, 1) := by decide +kernel
theorem dX9_canAll_10 : decode cX9_canAll 10 = .ok (.getfield 73, 3) := by decide +kernel
theorem dX9_canAll_13 : decode cX9_canAll 13 = .ok (.iload_n 2, 1) := by decide +kernel
theorem dX9_canAll_14 : decode cX9_canAll 14 = .ok (.aload_n 0, 1) := by decide +kernel
theorem dX9_canAll_15 : decode cX9_canAll 15 = .ok (.getfield 70, 3) := by decide +kernel
theorem dX9_canAll_18 : decode cX9_canAll 18 = .ok (.iload_n 2, 1) := by decide +kernel
theorem dX9_canAll_19 : decode cX9_canAll 19 = .ok (.iaload, 1) := by decide +kernel
theorem dX9_canAll_20 : decode cX9_canAll 20 = .ok (.iastore, 1) := by decide +kernel
theorem dX9_canAll_21 : decode cX9_canAll 21 = .ok (.iload_n 1, 1) := by decide +kernel
theorem dX9_canAll_22 : decode cX9_canAll 22 = .ok (.aload_n 0, 1) := by decide +kernel
theorem dX9_canAll_23 : decode cX9_canAll 23 = .ok (.getfield 70, 3) := by decide +kernel
theorem dX9_canAll_26 : decode cX9_canAll 26 = .ok (.iload_n 2, 1) := by decide +kernel
theorem dX9_canAll_27 : decode cX9_canAll 27 = .ok (.iaload, 1) := by decide +kernel
theorem dX9_canAll_28 : decode cX9_canAll 28 = .ok (.iadd, 1) := by decide +kernel
theorem dX9_canAll_29 : decode cX9_canAll 29 = .ok (.istore_n 1, 1) := by decide +kernel
theorem dX9_canAll_30 : decode cX9_canAll 30 = .ok (.iinc 2 1, 3) := by decide +kernel
theorem dX9_canAll_33 : decode cX9_canAll 33 = .ok (.goto (-29), 3) := by decide +kernel
theorem dX9_canAll_36 : decode cX9_canAll 36 = .ok (.aload_n 0, 1) := by decide +kernel
theorem dX9_canAll_37 : decode cX9_canAll 37 = .ok (.aload_n 0, 1) := by decide +kernel
theorem dX9_canAll_38 : decode cX9_canAll 38 = .ok (.getfield 73, 3) := by decide +kernel
theorem dX9_canAll_41 : decode cX9_canAll 41 = .ok (.iconst 4, 1) := by decide +kernel
theorem dX9_canAll_42 : decode cX9_canAll 42 = .ok (.iaload, 1) := by decide +kernel
theorem dX9_canAll_43 : decode cX9_canAll 43 = .ok (.invokevirtual 136, 3) := by decide +kernel
theorem dX9_canAll_46 : decode cX9_canAll 46 = .ok (.iload_n 1, 1) := by decide +kernel
theorem dX9_canAll_47 : decode cX9_canAll 47 = .ok (.if_icmp .ne 7, 3) := by decide +kernel
theorem dX9_canAll_50 : decode cX9_canAll 50 = .ok (.iconst 1, 1) := by decide +kernel
theorem dX9_canAll_51 : decode cX9_canAll 51 = .ok (.goto 4, 3) := by decide +kernel
theorem dX9_canAll_54 : decode cX9_canAll 54 = .ok (.iconst 0, 1) := by decide +kernel
theorem dX9_canAll_55 : decode cX9_canAll 55 = .ok (.ireturn, 1) := by decide +kernel
theorem dX9_lack_0 : decode cX9_lack 0 = .ok (.aload_n 0, 1) := by decide +kernel
theorem dX9_lack_1 : decode cX9_lack 1 = .ok (.iload_n 1, 1) := by decide +kernel
theorem dX9_lack_2 : decode cX9_lack 2 = .ok (.invokevirtual 140, 3) := by decide +kernel
theorem dX9_lack_5 : decode cX9_lack 5 = .ok (.iconst 0, 1) := by decide +kernel
theorem dX9_lack_6 : decode cX9_lack 6 = .ok (.istore 4, 2) := by decide +kernel
theorem dX9_lack_8 : decode cX9_lack 8 = .ok (.iconst 0, 1) := by decide +kernel
theorem dX9_lack_9 : decode cX9_lack 9 = .ok (.istore 5, 2) := by decide +kernel
theorem dX9_lack_11 : decode cX9_lack 11 = .ok (.iload 5, 2) := by decide +kernel
theorem dX9_lack_13 : decode cX9_lack 13 = .ok (.iconst 5, 1) := by decide +kernel
theorem dX9_lack_14 : decode cX9_lack 14 = .ok (.if_icmp .ge 17, 3) := by decide +kernel
theorem dX9_lack_17 : decode cX9_lack 17 = .ok (.aload_n 0, 1) := by decide +kernel
theorem dX9_lack_18 : decode cX9_lack 18 = .ok (.getfield 73, 3) := by decide +kernel
theorem dX9_lack_21 : decode cX9_lack 21 = .ok (.iload 5, 2) := by decide +kernel
theorem dX9_lack_23 : decode cX9_lack 23 = .ok (.iconst 0, 1) := by decide +kernel
theorem dX9_lack_24 : decode cX9_lack 24 = .ok (.iastore, 1) := by decide +kernel
theorem dX9_lack_25 : decode cX9_lack 25 = .ok (.iinc 5 1, 3) := by decide +kernel
theorem dX9_lack_28 : decode cX9_lack 28 = .ok (.goto (-17), 3) := by decide +kernel
theorem dX9_lack_31 : decode cX9_lack 31 = .ok (.iconst 0, 1) := by decide +kernel
theorem dX9_lack_32 : decode cX9_lack 32 = .ok (.istore 5, 2) := by decide +kernel
theorem dX9_lack_34 : decode cX9_lack 34 = .ok (.iload 5, 2) := by decide +kernel
theorem dX9_lack_36 : decode cX9_lack 36 = .ok (.aload_n 0, 1) := by decide +kernel
theorem dX9_lack_37 : decode cX9_lack 37 = .ok (.getfield 117, 3) := by decide +kernel
theorem dX9_lack_40 : decode cX9_lack 40 = .ok (.if_icmp .ge 47, 3) := by decide +kernel
theorem dX9_lack_43 : decode cX9_lack 43 = .ok (.iload 5, 2) := by decide +kernel
theorem dX9_lack_45 : decode cX9_lack 45 = .ok (.iload_n 3, 1) := by decide +kernel
theorem dX9_lack_46 : decode cX9_lack 46 = .ok (.if_icmp .eq 35, 3) := by decide +kernel
theorem dX9_lack_49 : decode cX9_lack 49 = .ok (.aload_n 0, 1) := by decide +kernel
theorem dX9_lack_50 : decode cX9_lack 50 = .ok (.iload 5, 2) := by decide +kernel
theorem dX9_lack_52 : decode cX9_lack 52 = .ok (.iload_n 1, 1) := by decide +kernel
theorem dX9_lack_53 : decode cX9_lack 53 = .ok (.invokevirtual 144, 3) := by decide +kernel
theorem dX9_lack_56 : decode cX9_lack 56 = .ok (.ifCond .ne 6, 3) := by decide +kernel
theorem dX9_lack_59 : decode cX9_lack 59 = .ok (.goto 22, 3) := by decide +kernel
theorem dX9_lack_62 : decode cX9_lack 62 = .ok (.aload_n 0, 1) := by decide +kernel
theorem dX9_lack_63 : decode cX9_lack 63 = .ok (.getfield 73, 3) := by decide +kernel
theorem dX9_lack_66 : decode cX9_lack 66 = .ok (.aload_n 0, 1) := by decide +kernel
theorem dX9_lack_67 : decode cX9_lack 67 = .ok (.getfield 40, 3) := by decide +kernel
theorem dX9_lack_70 : decode cX9_lack 70 = .ok (.iload 5, 2) := by decide +kernel
theorem dX9_lack_72 : decode cX9_lack 72 = .ok (.iaload, 1) := by decide +kernel
theorem dX9_lack_73 : decode cX9_lack 73 = .ok (.dup2, 1) := by decide +kernel
theorem dX9_lack_74 : decode cX9_lack 74 = .ok (.iaload, 1) := by decide +kernel
theorem dX9_lack_75 : decode cX9_lack 75 = .ok (.iconst 1, 1) := by decide +kernel
theorem dX9_lack_76 : decode cX9_lack 76 = .ok (.iadd, 1) := by decide +kernel
theorem dX9_lack_77 : decode cX9_lack 77 = .ok (.iastore, 1) := by decide +kernel
theorem dX9_lack_78 : decode cX9_lack 78 = .ok (.iinc 4 1, 3) := by decide +kernel
theorem dX9_lack_81 : decode cX9_lack 81 = .ok (.iinc 5 1, 3) := by decide +kernel
theorem dX9_lack_84 : decode cX9_lack 84 = .ok (.goto (-50), 3) := by decide +kernel
theorem dX9_lack_87 : decode cX9_lack 87 = .ok (.iload_n 2, 1) := by decide +kernel
theorem dX9_lack_88 : decode cX9_lack 88 = .ok (.iconst (-1), 1) := by decide +kernel
theorem dX9_lack_89 : decode cX9_lack 89 = .ok (.if_icmp .eq 16, 3) := by decide +kernel
theorem dX9_lack_92 : decode cX9_lack 92 = .ok (.aload_n 0, 1) := by decide +kernel
theorem dX9_lack_93 : decode cX9_lack 93 = .ok (.getfield 73, 3) := by decide +kernel
theorem dX9_lack_96 : decode cX9_lack 96 = .ok (.iload_n 2, 1) := by decide +kernel
theorem dX9_lack_97 : decode cX9_lack 97 = .ok (.dup2, 1) := by decide +kernel
theorem dX9_lack_98 : decode cX9_lack 98 = .ok (.iaload, 1) := by decide +kernel
theorem dX9_lack_99 : decode cX9_lack 99 = .ok (.iconst 1, 1) := by decide +kernel
theorem dX9_lack_100 : decode cX9_lack 100 = .ok (.iadd, 1) := by decide +kernel
theorem dX9_lack_101 : decode cX9_lack 101 = .ok (.iastore, 1) := by decide +kernel
theorem dX9_lack_102 : decode cX9_lack 102 = .ok (.iinc 4 1, 3) := by decide +kernel
theorem dX9_lack_105 : decode cX9_lack 105 = .ok (.iconst 0, 1) := by decide +kernel
theorem dX9_lack_106 : decode cX9_lack 106 = .ok (.istore 5, 2) := by decide +kernel
theorem dX9_lack_108 : decode cX9_lack 108 = .ok (.iconst 0, 1) := by decide +kernel
theorem dX9_lack_109 : decode cX9_lack 109 = .ok (.istore 6, 2) := by decide +kernel
theorem dX9_lack_111 : decode cX9_lack 111 = .ok (.iload 6, 2) := by decide +kernel
theorem dX9_lack_113 : decode cX9_lack 113 = .ok (.aload_n 0, 1) := by decide +kernel
theorem dX9_lack_114 : decode cX9_lack 114 = .ok (.getfield 73, 3) := by decide +kernel
theorem dX9_lack_117 : decode cX9_lack 117 = .ok (.iconst 4, 1) := by decide +kernel
theorem dX9_lack_118 : decode cX9_lack 118 = .ok (.iaload, 1) := by decide +kernel
theorem dX9_lack_119 : decode cX9_lack 119 = .ok (.if_icmp .gt 28, 3) := by decide +kernel
theorem dX9_lack_122 : decode cX9_lack 122 = .ok (.aload_n 0, 1) := by decide +kernel
theorem dX9_lack_123 : decode cX9_lack 123 = .ok (.iload 6, 2) := by decide +kernel
theorem dX9_lack_125 : decode cX9_lack 125 = .ok (.invokevirtual 136, 3) := by decide +kernel
theorem dX9_lack_128 : decode cX9_lack 128 = .ok (.istore 7, 2) := by decide +kernel
theorem dX9_lack_130 : decode cX9_lack 130 = .ok (.iload 7, 2) := by decide +kernel
theorem dX9_lack_132 : decode cX9_lack 132 = .ok (.iload 5, 2) := by decide +kernel
theorem dX9_lack_134 : decode cX9_lack 134 = .ok (.if_icmp .le 7, 3) := by decide +kernel
theorem dX9_lack_137 : decode cX9_lack 137 = .ok (.iload 7, 2) := by decide +kernel
theorem dX9_lack_139 : decode cX9_lack 139 = .ok (.istore 5, 2) := by decide +kernel
theorem dX9_lack_141 : decode cX9_lack 141 = .ok (.iinc 6 1, 3) := by decide +kernel
theorem dX9_lack_144 : decode cX9_lack 144 = .ok (.goto (-33), 3) := by decide +kernel
theorem dX9_lack_147 : decode cX9_lack 147 = .ok (.iload 4, 2) := by decide +kernel
theorem dX9_lack_149 : decode cX9_lack 149 = .ok (.iload 5, 2) := by decide +kernel
theorem dX9_lack_151 : decode cX9_lack 151 = .ok (.isub, 1) := by decide +kernel
theorem dX9_lack_152 : decode cX9_lack 152 = .ok (.ireturn, 1) := by decide +kernel
theorem dX9_keep_0 : decode cX9_keep 0 = .ok (.iconst 0, 1) := by decide +kernel
theorem dX9_keep_1 : decode cX9_keep 1 = .ok (.istore_n 3, 1) := by decide +kernel
theorem dX9_keep_2 : decode cX9_keep 2 = .ok (.iload_n 3, 1) := by decide +kernel
theorem dX9_keep_3 : decode cX9_keep 3 = .ok (.aload_n 0, 1) := by decide +kernel
theorem dX9_keep_4 : decode cX9_keep 4 = .ok (.getfield 117, 3) := by decide +kernel
theorem dX9_keep_7 : decode cX9_keep 7 = .ok (.if_icmp .ge 80, 3) := by decide +kernel
theorem dX9_keep_10 : decode cX9_keep 10 = .ok (.aload_n 0, 1) := by decide +kernel
theorem dX9_keep_11 : decode cX9_keep 11 = .ok (.getfield 37, 3) := by decide +kernel
theorem dX9_keep_14 : decode cX9_keep 14 = .ok (.iload_n 3, 1) := by decide +kernel
theorem dX9_keep_15 : decode cX9_keep 15 = .ok (.iaload, 1) := by decide +kernel
theorem dX9_keep_16 : decode cX9_keep 16 = .ok (.iload_n 2, 1) := by decide +kernel
theorem dX9_keep_17 : decode cX9_keep 17 = .ok (.if_icmp .ne 64, 3) := by decide +kernel
theorem dX9_keep_20 : decode cX9_keep 20 = .ok (.aload_n 0, 1) := by decide +kernel
theorem dX9_keep_21 : decode cX9_keep 21 = .ok (.iload_n 3, 1) := by decide +kernel
theorem dX9_keep_22 : decode cX9_keep 22 = .ok (.iload_n 1, 1) := by decide +kernel
theorem dX9_keep_23 : decode cX9_keep 23 = .ok (.invokevirtual 144, 3) := by decide +kernel
theorem dX9_keep_26 : decode cX9_keep 26 = .ok (.ifCond .ne 6, 3) := by decide +kernel
theorem dX9_keep_29 : decode cX9_keep 29 = .ok (.goto 52, 3) := by decide +kernel
theorem dX9_keep_32 : decode cX9_keep 32 = .ok (.aload_n 0, 1) := by decide +kernel
theorem dX9_keep_33 : decode cX9_keep 33 = .ok (.getfield 70, 3) := by decide +kernel
theorem dX9_keep_36 : decode cX9_keep 36 = .ok (.aload_n 0, 1) := by decide +kernel
theorem dX9_keep_37 : decode cX9_keep 37 = .ok (.getfield 40, 3) := by decide +kernel
theorem dX9_keep_40 : decode cX9_keep 40 = .ok (.iload_n 3, 1) := by decide +kernel
theorem dX9_keep_41 : decode cX9_keep 41 = .ok (.iaload, 1) := by decide +kernel
theorem dX9_keep_42 : decode cX9_keep 42 = .ok (.dup2, 1) := by decide +kernel
theorem dX9_keep_43 : decode cX9_keep 43 = .ok (.iaload, 1) := by decide +kernel
theorem dX9_keep_44 : decode cX9_keep 44 = .ok (.iconst 1, 1) := by decide +kernel
theorem dX9_keep_45 : decode cX9_keep 45 = .ok (.iadd, 1) := by decide +kernel
theorem dX9_keep_46 : decode cX9_keep 46 = .ok (.iastore, 1) := by decide +kernel
theorem dX9_keep_47 : decode cX9_keep 47 = .ok (.aload_n 0, 1) := by decide +kernel
theorem dX9_keep_48 : decode cX9_keep 48 = .ok (.getfield 76, 3) := by decide +kernel
theorem dX9_keep_51 : decode cX9_keep 51 = .ok (.iload_n 3, 1) := by decide +kernel
theorem dX9_keep_52 : decode cX9_keep 52 = .ok (.aload_n 0, 1) := by decide +kernel
theorem dX9_keep_53 : decode cX9_keep 53 = .ok (.invokevirtual 147, 3) := by decide +kernel
theorem dX9_keep_56 : decode cX9_keep 56 = .ok (.bastore, 1) := by decide +kernel
theorem dX9_keep_57 : decode cX9_keep 57 = .ok (.aload_n 0, 1) := by decide +kernel
theorem dX9_keep_58 : decode cX9_keep 58 = .ok (.getfield 76, 3) := by decide +kernel
theorem dX9_keep_61 : decode cX9_keep 61 = .ok (.iload_n 3, 1) := by decide +kernel
theorem dX9_keep_62 : decode cX9_keep 62 = .ok (.baload, 1) := by decide +kernel
theorem dX9_keep_63 : decode cX9_keep 63 = .ok (.ifCond .ne 18, 3) := by decide +kernel
theorem dX9_keep_66 : decode cX9_keep 66 = .ok (.aload_n 0, 1) := by decide +kernel
theorem dX9_keep_67 : decode cX9_keep 67 = .ok (.getfield 70, 3) := by decide +kernel
theorem dX9_keep_70 : decode cX9_keep 70 = .ok (.aload_n 0, 1) := by decide +kernel
theorem dX9_keep_71 : decode cX9_keep 71 = .ok (.getfield 40, 3) := by decide +kernel
theorem dX9_keep_74 : decode cX9_keep 74 = .ok (.iload_n 3, 1) := by decide +kernel
theorem dX9_keep_75 : decode cX9_keep 75 = .ok (.iaload, 1) := by decide +kernel
theorem dX9_keep_76 : decode cX9_keep 76 = .ok (.dup2, 1) := by decide +kernel
theorem dX9_keep_77 : decode cX9_keep 77 = .ok (.iaload, 1) := by decide +kernel
theorem dX9_keep_78 : decode cX9_keep 78 = .ok (.iconst 1, 1) := by decide +kernel
theorem dX9_keep_79 : decode cX9_keep 79 = .ok (.isub, 1) := by decide +kernel
theorem dX9_keep_80 : decode cX9_keep 80 = .ok (.iastore, 1) := by decide +kernel
theorem dX9_keep_81 : decode cX9_keep 81 = .ok (.iinc 3 1, 3) := by decide +kernel
theorem dX9_keep_84 : decode cX9_keep 84 = .ok (.goto (-82), 3) := by decide +kernel
theorem dX9_keep_87 : decode cX9_keep 87 = .ok (.return_, 1) := by decide +kernel
theorem dX9_gives_0 : decode cX9_gives 0 = .ok (.iload_n 2, 1) := by decide +kernel
theorem dX9_gives_1 : decode cX9_gives 1 = .ok (.bipush 32, 2) := by decide +kernel
theorem dX9_gives_3 : decode cX9_gives 3 = .ok (.idiv, 1) := by decide +kernel
theorem dX9_gives_4 : decode cX9_gives 4 = .ok (.istore_n 3, 1) := by decide +kernel
theorem dX9_gives_5 : decode cX9_gives 5 = .ok (.iload_n 2, 1) := by decide +kernel
theorem dX9_gives_6 : decode cX9_gives 6 = .ok (.bipush 32, 2) := by decide +kernel
theorem dX9_gives_8 : decode cX9_gives 8 = .ok (.irem, 1) := by decide +kernel
theorem dX9_gives_9 : decode cX9_gives 9 = .ok (.iconst 4, 1) := by decide +kernel
theorem dX9_gives_10 : decode cX9_gives 10 = .ok (.idiv, 1) := by decide +kernel
theorem dX9_gives_11 : decode cX9_gives 11 = .ok (.istore 4, 2) := by decide +kernel
theorem dX9_gives_13 : decode cX9_gives 13 = .ok (.iload_n 2, 1) := by decide +kernel
theorem dX9_gives_14 : decode cX9_gives 14 = .ok (.iconst 4, 1) := by decide +kernel
theorem dX9_gives_15 : decode cX9_gives 15 = .ok (.irem, 1) := by decide +kernel
theorem dX9_gives_16 : decode cX9_gives 16 = .ok (.iconst 1, 1) := by decide +kernel
theorem dX9_gives_17 : decode cX9_gives 17 = .ok (.if_icmp .ne 7, 3) := by decide +kernel
theorem dX9_gives_20 : decode cX9_gives 20 = .ok (.iconst 1, 1) := by decide +kernel
theorem dX9_gives_21 : decode cX9_gives 21 = .ok (.goto 4, 3) := by decide +kernel
theorem dX9_gives_24 : decode cX9_gives 24 = .ok (.iconst 0, 1) := by decide +kernel
theorem dX9_gives_25 : decode cX9_gives 25 = .ok (.istore 5, 2) := by decide +kernel
theorem dX9_gives_27 : decode cX9_gives 27 = .ok (.aload_n 0, 1) := by decide +kernel
theorem dX9_gives_28 : decode cX9_gives 28 = .ok (.getfield 40, 3) := by decide +kernel
theorem dX9_gives_31 : decode cX9_gives 31 = .ok (.iload_n 1, 1) := by decide +kernel
theorem dX9_gives_32 : decode cX9_gives 32 = .ok (.iaload, 1) := by decide +kernel
theorem dX9_gives_33 : decode cX9_gives 33 = .ok (.istore 6, 2) := by decide +kernel
theorem dX9_gives_35 : decode cX9_gives 35 = .ok (.aload_n 0, 1) := by decide +kernel
theorem dX9_gives_36 : decode cX9_gives 36 = .ok (.getfield 13, 3) := by decide +kernel
theorem dX9_gives_39 : decode cX9_gives 39 = .ok (.iload_n 3, 1) := by decide +kernel
theorem dX9_gives_40 : decode cX9_gives 40 = .ok (.iaload, 1) := by decide +kernel
theorem dX9_gives_41 : decode cX9_gives 41 = .ok (.istore 7, 2) := by decide +kernel
theorem dX9_gives_43 : decode cX9_gives 43 = .ok (.aload_n 0, 1) := by decide +kernel
theorem dX9_gives_44 : decode cX9_gives 44 = .ok (.iload_n 3, 1) := by decide +kernel
theorem dX9_gives_45 : decode cX9_gives 45 = .ok (.invokevirtual 107, 3) := by decide +kernel
theorem dX9_gives_48 : decode cX9_gives 48 = .ok (.ifCond .eq 55, 3) := by decide +kernel
theorem dX9_gives_51 : decode cX9_gives 51 = .ok (.aload_n 0, 1) := by decide +kernel
theorem dX9_gives_52 : decode cX9_gives 52 = .ok (.iload_n 3, 1) := by decide +kernel
theorem dX9_gives_53 : decode cX9_gives 53 = .ok (.aload_n 0, 1) := by decide +kernel
theorem dX9_gives_54 : decode cX9_gives 54 = .ok (.getfield 123, 3) := by decide +kernel
theorem dX9_gives_57 : decode cX9_gives 57 = .ok (.invokevirtual 126, 3) := by decide +kernel
theorem dX9_gives_60 : decode cX9_gives 60 = .ok (.ifCond .eq 43, 3) := by decide +kernel
theorem dX9_gives_63 : decode cX9_gives 63 = .ok (.iload 5, 2) := by decide +kernel
theorem dX9_gives_65 : decode cX9_gives 65 = .ok (.iload 6, 2) := by decide +kernel
theorem dX9_gives_67 : decode cX9_gives 67 = .ok (.iconst 4, 1) := by decide +kernel
theorem dX9_gives_68 : decode cX9_gives 68 = .ok (.if_icmp .ne 7, 3) := by decide +kernel
theorem dX9_gives_71 : decode cX9_gives 71 = .ok (.iconst 1, 1) := by decide +kernel
theorem dX9_gives_72 : decode cX9_gives 72 = .ok (.goto 4, 3) := by decide +kernel
theorem dX9_gives_75 : decode cX9_gives 75 = .ok (.iconst 0, 1) := by decide +kernel
theorem dX9_gives_76 : decode cX9_gives 76 = .ok (.if_icmp .ne 27, 3) := by decide +kernel
theorem dX9_gives_79 : decode cX9_gives 79 = .ok (.iload 7, 2) := by decide +kernel
theorem dX9_gives_81 : decode cX9_gives 81 = .ok (.iconst 3, 1) := by decide +kernel
theorem dX9_gives_82 : decode cX9_gives 82 = .ok (.if_icmp .ne 7, 3) := by decide +kernel
theorem dX9_gives_85 : decode cX9_gives 85 = .ok (.iconst 1, 1) := by decide +kernel
theorem dX9_gives_86 : decode cX9_gives 86 = .ok (.goto 4, 3) := by decide +kernel
theorem dX9_gives_89 : decode cX9_gives 89 = .ok (.iconst 0, 1) := by decide +kernel
theorem dX9_gives_90 : decode cX9_gives 90 = .ok (.iload 6, 2) := by decide +kernel
theorem dX9_gives_92 : decode cX9_gives 92 = .ok (.ifCond .ne 7, 3) := by decide +kernel
theorem dX9_gives_95 : decode cX9_gives 95 = .ok (.iconst 1, 1) := by decide +kernel
theorem dX9_gives_96 : decode cX9_gives 96 = .ok (.goto 4, 3) := by decide +kernel
theorem dX9_gives_99 : decode cX9_gives 99 = .ok (.iconst 0, 1) := by decide +kernel
theorem dX9_gives_100 : decode cX9_gives 100 = .ok (.if_icmp .eq 5, 3) := by decide +kernel
theorem dX9_gives_103 : decode cX9_gives 103 = .ok (.iconst 0, 1) := by decide +kernel
theorem dX9_gives_104 : decode cX9_gives 104 = .ok (.ireturn, 1) := by decide +kernel
theorem dX9_gives_105 : decode cX9_gives 105 = .ok (.iload 7, 2) := by decide +kernel
theorem dX9_gives_107 : decode cX9_gives 107 = .ok (.iconst 3, 1) := by decide +kernel
theorem dX9_gives_108 : decode cX9_gives 108 = .ok (.if_icmp .ne 31, 3) := by decide +kernel
theorem dX9_gives_111 : decode cX9_gives 111 = .ok (.iload 4, 2) := by decide +kernel
theorem dX9_gives_113 : decode cX9_gives 113 = .ok (.aload_n 0, 1) := by decide +kernel
theorem dX9_gives_114 : decode cX9_gives 114 = .ok (.getfield 20, 3) := by decide +kernel
theorem dX9_gives_117 : decode cX9_gives 117 = .ok (.iload_n 3, 1) := by decide +kernel
theorem dX9_gives_118 : decode cX9_gives 118 = .ok (.iaload, 1) := by decide +kernel
theorem dX9_gives_119 : decode cX9_gives 119 = .ok (.if_icmp .ge 18, 3) := by decide +kernel
theorem dX9_gives_122 : decode cX9_gives 122 = .ok (.aload_n 0, 1) := by decide +kernel
theorem dX9_gives_123 : decode cX9_gives 123 = .ok (.getfield 67, 3) := by decide +kernel
theorem dX9_gives_126 : decode cX9_gives 126 = .ok (.iload_n 3, 1) := by decide +kernel
theorem dX9_gives_127 : decode cX9_gives 127 = .ok (.iaload, 1) := by decide +kernel
theorem dX9_gives_128 : decode cX9_gives 128 = .ok (.iload 4, 2) := by decide +kernel
theorem dX9_gives_130 : decode cX9_gives 130 = .ok (.ishr, 1) := by decide +kernel
theorem dX9_gives_131 : decode cX9_gives 131 = .ok (.iconst 1, 1) := by decide +kernel
theorem dX9_gives_132 : decode cX9_gives 132 = .ok (.iand, 1) := by decide +kernel
theorem dX9_gives_133 : decode cX9_gives 133 = .ok (.iconst 1, 1) := by decide +kernel
theorem dX9_gives_134 : decode cX9_gives 134 = .ok (.if_icmp .ne 21, 3) := by decide +kernel
theorem dX9_gives_137 : decode cX9_gives 137 = .ok (.iconst 0, 1) := by decide +kernel
theorem dX9_gives_138 : decode cX9_gives 138 = .ok (.ireturn, 1) := by decide +kernel
theorem dX9_gives_139 : decode cX9_gives 139 = .ok (.aload_n 0, 1) := by decide +kernel
theorem dX9_gives_140 : decode cX9_gives 140 = .ok (.getfield 67, 3) := by decide +kernel
theorem dX9_gives_143 : decode cX9_gives 143 = .ok (.iload_n 3, 1) := by decide +kernel
theorem dX9_gives_144 : decode cX9_gives 144 = .ok (.iaload, 1) := by decide +kernel
theorem dX9_gives_145 : decode cX9_gives 145 = .ok (.ifCond .ne 8, 3) := by decide +kernel
theorem dX9_gives_148 : decode cX9_gives 148 = .ok (.iload 4, 2) := by decide +kernel
theorem dX9_gives_150 : decode cX9_gives 150 = .ok (.ifCond .le 5, 3) := by decide +kernel
theorem dX9_gives_153 : decode cX9_gives 153 = .ok (.iconst 0, 1) := by decide +kernel
theorem dX9_gives_154 : decode cX9_gives 154 = .ok (.ireturn, 1) := by decide +kernel
theorem dX9_gives_155 : decode cX9_gives 155 = .ok (.iload 6, 2) := by decide +kernel
theorem dX9_gives_157 : decode cX9_gives 157 = .ok (.iconst 2, 1) := by decide +kernel
theorem dX9_gives_158 : decode cX9_gives 158 = .ok (.if_icmp .ne 8, 3) := by decide +kernel
theorem dX9_gives_161 : decode cX9_gives 161 = .ok (.iload 7, 2) := by decide +kernel
theorem dX9_gives_163 : decode cX9_gives 163 = .ok (.ifCond .eq 15, 3) := by decide +kernel
theorem dX9_gives_166 : decode cX9_gives 166 = .ok (.iload 6, 2) := by decide +kernel
theorem dX9_gives_168 : decode cX9_gives 168 = .ok (.iconst 3, 1) := by decide +kernel
theorem dX9_gives_169 : decode cX9_gives 169 = .ok (.if_icmp .ne 11, 3) := by decide +kernel
theorem dX9_gives_172 : decode cX9_gives 172 = .ok (.iload 7, 2) := by decide +kernel
theorem dX9_gives_174 : decode cX9_gives 174 = .ok (.iconst 2, 1) := by decide +kernel
theorem dX9_gives_175 : decode cX9_gives 175 = .ok (.if_icmp .eq 5, 3) := by decide +kernel
theorem dX9_gives_178 : decode cX9_gives 178 = .ok (.iconst 0, 1) := by decide +kernel
theorem dX9_gives_179 : decode cX9_gives 179 = .ok (.ireturn, 1) := by decide +kernel
theorem dX9_gives_180 : decode cX9_gives 180 = .ok (.aload_n 0, 1) := by decide +kernel
theorem dX9_gives_181 : decode cX9_gives 181 = .ok (.getfield 23, 3) := by decide +kernel
theorem dX9_gives_184 : decode cX9_gives 184 = .ok (.iload_n 3, 1) := by decide +kernel
theorem dX9_gives_185 : decode cX9_gives 185 = .ok (.iaload, 1) := by decide +kernel
theorem dX9_gives_186 : decode cX9_gives 186 = .ok (.istore 8, 2) := by decide +kernel
theorem dX9_gives_188 : decode cX9_gives 188 = .ok (.iload 5, 2) := by decide +kernel
theorem dX9_gives_190 : decode cX9_gives 190 = .ok (.ifCond .eq 26, 3) := by decide +kernel
theorem dX9_gives_193 : decode cX9_gives 193 = .ok (.iload 7, 2) := by decide +kernel
theorem dX9_gives_195 : decode cX9_gives 195 = .ok (.iconst 1, 1) := by decide +kernel
theorem dX9_gives_196 : decode cX9_gives 196 = .ok (.if_icmp .ne 18, 3) := by decide +kernel
theorem dX9_gives_199 : decode cX9_gives 199 = .ok (.iload 8, 2) := by decide +kernel
theorem dX9_gives_201 : decode cX9_gives 201 = .ok (.iload_n 3, 1) := by decide +kernel
theorem dX9_gives_202 : decode cX9_gives 202 = .ok (.if_icmp .lt 12, 3) := by decide +kernel
theorem dX9_gives_205 : decode cX9_gives 205 = .ok (.aload_n 0, 1) := by decide +kernel
theorem dX9_gives_206 : decode cX9_gives 206 = .ok (.iload 8, 2) := by decide +kernel
theorem dX9_gives_208 : decode cX9_gives 208 = .ok (.invokevirtual 129, 3) := by decide +kernel
theorem dX9_gives_211 : decode cX9_gives 211 = .ok (.ifCond .ne 5, 3) := by decide +kernel
theorem dX9_gives_214 : decode cX9_gives 214 = .ok (.iconst 0, 1) := by decide +kernel
theorem dX9_gives_215 : decode cX9_gives 215 = .ok (.ireturn, 1) := by decide +kernel
theorem dX9_gives_216 : decode cX9_gives 216 = .ok (.aload_n 0, 1) := by decide +kernel
theorem dX9_gives_217 : decode cX9_gives 217 = .ok (.getfield 67, 3) := by decide +kernel
theorem dX9_gives_220 : decode cX9_gives 220 = .ok (.iload_n 3, 1) := by decide +kernel
theorem dX9_gives_221 : decode cX9_gives 221 = .ok (.dup2, 1) := by decide +kernel
theorem dX9_gives_222 : decode cX9_gives 222 = .ok (.iaload, 1) := by decide +kernel
theorem dX9_gives_223 : decode cX9_gives 223 = .ok (.iconst 1, 1) := by decide +kernel
theorem dX9_gives_224 : decode cX9_gives 224 = .ok (.iload 4, 2) := by decide +kernel
theorem dX9_gives_226 : decode cX9_gives 226 = .ok (.ishl, 1) := by decide +kernel
theorem dX9_gives_227 : decode cX9_gives 227 = .ok (.ior, 1) := by decide +kernel
theorem dX9_gives_228 : decode cX9_gives 228 = .ok (.iastore, 1) := by decide +kernel
theorem dX9_gives_229 : decode cX9_gives 229 = .ok (.iload 5, 2) := by decide +kernel
theorem dX9_gives_231 : decode cX9_gives 231 = .ok (.ifCond .eq 11, 3) := by decide +kernel
theorem dX9_gives_234 : decode cX9_gives 234 = .ok (.aload_n 0, 1) := by decide +kernel
theorem dX9_gives_235 : decode cX9_gives 235 = .ok (.getfield 67, 3) := by decide +kernel
theorem dX9_gives_238 : decode cX9_gives 238 = .ok (.iload 8, 2) := by decide +kernel
theorem dX9_gives_240 : decode cX9_gives 240 = .ok (.iconst 1, 1) := by decide +kernel
theorem dX9_gives_241 : decode cX9_gives 241 = .ok (.iastore, 1) := by decide +kernel
theorem dX9_gives_242 : decode cX9_gives 242 = .ok (.aload_n 0, 1) := by decide +kernel
theorem dX9_gives_243 : decode cX9_gives 243 = .ok (.getfield 70, 3) := by decide +kernel
theorem dX9_gives_246 : decode cX9_gives 246 = .ok (.iload 6, 2) := by decide +kernel
theorem dX9_gives_248 : decode cX9_gives 248 = .ok (.dup2, 1) := by decide +kernel
theorem dX9_gives_249 : decode cX9_gives 249 = .ok (.iaload, 1) := by decide +kernel
theorem dX9_gives_250 : decode cX9_gives 250 = .ok (.iconst 1, 1) := by decide +kernel
theorem dX9_gives_251 : decode cX9_gives 251 = .ok (.isub, 1) := by decide +kernel
theorem dX9_gives_252 : decode cX9_gives 252 = .ok (.iastore, 1) := by decide +kernel
theorem dX9_gives_253 : decode cX9_gives 253 = .ok (.aload_n 0, 1) := by decide +kernel
theorem dX9_gives_254 : decode cX9_gives 254 = .ok (.invokevirtual 147, 3) := by decide +kernel
theorem dX9_gives_257 : decode cX9_gives 257 = .ok (.ifCond .eq 5, 3) := by decide +kernel
theorem dX9_gives_260 : decode cX9_gives 260 = .ok (.iconst 1, 1) := by decide +kernel
theorem dX9_gives_261 : decode cX9_gives 261 = .ok (.ireturn, 1) := by decide +kernel
theorem dX9_gives_262 : decode cX9_gives 262 = .ok (.aload_n 0, 1) := by decide +kernel
theorem dX9_gives_263 : decode cX9_gives 263 = .ok (.getfield 70, 3) := by decide +kernel
theorem dX9_gives_266 : decode cX9_gives 266 = .ok (.iload 6, 2) := by decide +kernel
theorem dX9_gives_268 : decode cX9_gives 268 = .ok (.dup2, 1) := by decide +kernel
theorem dX9_gives_269 : decode cX9_gives 269 = .ok (.iaload, 1) := by decide +kernel
theorem dX9_gives_270 : decode cX9_gives 270 = .ok (.iconst 1, 1) := by decide +kernel
theorem dX9_gives_271 : decode cX9_gives 271 = .ok (.iadd, 1) := by decide +kernel
theorem dX9_gives_272 : decode cX9_gives 272 = .ok (.iastore, 1) := by decide +kernel
theorem dX9_gives_273 : decode cX9_gives 273 = .ok (.aload_n 0, 1) := by decide +kernel
theorem dX9_gives_274 : decode cX9_gives 274 = .ok (.getfield 67, 3) := by decide +kernel
theorem dX9_gives_277 : decode cX9_gives 277 = .ok (.iload_n 3, 1) := by decide +kernel
theorem dX9_gives_278 : decode cX9_gives 278 = .ok (.dup2, 1) := by decide +kernel
theorem dX9_gives_279 : decode cX9_gives 279 = .ok (.iaload, 1) := by decide +kernel
theorem dX9_gives_280 : decode cX9_gives 280 = .ok (.iconst 1, 1) := by decide +kernel
theorem dX9_gives_281 : decode cX9_gives 281 = .ok (.iload 4, 2) := by decide +kernel
theorem dX9_gives_283 : decode cX9_gives 283 = .ok (.ishl, 1) := by decide +kernel
theorem dX9_gives_284 : decode cX9_gives 284 = .ok (.iconst (-1), 1) := by decide +kernel
theorem dX9_gives_285 : decode cX9_gives 285 = .ok (.ixor, 1) := by decide +kernel
theorem dX9_gives_286 : decode cX9_gives 286 = .ok (.iand, 1) := by decide +kernel
theorem dX9_gives_287 : decode cX9_gives 287 = .ok (.iastore, 1) := by decide +kernel
theorem dX9_gives_288 : decode cX9_gives 288 = .ok (.iload 5, 2) := by decide +kernel
theorem dX9_gives_290 : decode cX9_gives 290 = .ok (.ifCond .eq 11, 3) := by decide +kernel
theorem dX9_gives_293 : decode cX9_gives 293 = .ok (.aload_n 0, 1) := by decide +kernel
theorem dX9_gives_294 : decode cX9_gives 294 = .ok (.getfield 67, 3) := by decide +kernel
theorem dX9_gives_297 : decode cX9_gives 297 = .ok (.iload 8, 2) := by decide +kernel
theorem dX9_gives_299 : decode cX9_gives 299 = .ok (.iconst 0, 1) := by decide +kernel
theorem dX9_gives_300 : decode cX9_gives 300 = .ok (.iastore, 1) := by decide +kernel
theorem dX9_gives_301 : decode cX9_gives 301 = .ok (.iconst 0, 1) := by decide +kernel
theorem dX9_gives_302 : decode cX9_gives 302 = .ok (.ireturn, 1) := by decide +kernel
theorem dX9_plan_0 : decode cX9_plan 0 = .ok (.iconst 0, 1) := by decide +kernel
theorem dX9_plan_1 : decode cX9_plan 1 = .ok (.istore_n 2, 1) := by decide +kernel
theorem dX9_plan_2 : decode cX9_plan 2 = .ok (.iload_n 2, 1) := by decide +kernel
theorem dX9_plan_3 : decode cX9_plan 3 = .ok (.aload_n 0, 1) := by decide +kernel
theorem dX9_plan_4 : decode cX9_plan 4 = .ok (.getfield 117, 3) := by decide +kernel
theorem dX9_plan_7 : decode cX9_plan 7 = .ok (.if_icmp .ge 35, 3) := by decide +kernel
theorem dX9_plan_10 : decode cX9_plan 10 = .ok (.aload_n 0, 1) := by decide +kernel
theorem dX9_plan_11 : decode cX9_plan 11 = .ok (.getfield 76, 3) := by decide +kernel
theorem dX9_plan_14 : decode cX9_plan 14 = .ok (.iload_n 2, 1) := by decide +kernel
theorem dX9_plan_15 : decode cX9_plan 15 = .ok (.iconst 0, 1) := by decide +kernel
theorem dX9_plan_16 : decode cX9_plan 16 = .ok (.bastore, 1) := by decide +kernel
theorem dX9_plan_17 : decode cX9_plan 17 = .ok (.aload_n 0, 1) := by decide +kernel
theorem dX9_plan_18 : decode cX9_plan 18 = .ok (.getfield 79, 3) := by decide +kernel
theorem dX9_plan_21 : decode cX9_plan 21 = .ok (.iload_n 2, 1) := by decide +kernel
theorem dX9_plan_22 : decode cX9_plan 22 = .ok (.iconst 0, 1) := by decide +kernel
theorem dX9_plan_23 : decode cX9_plan 23 = .ok (.bastore, 1) := by decide +kernel
theorem dX9_plan_24 : decode cX9_plan 24 = .ok (.aload_n 0, 1) := by decide +kernel
theorem dX9_plan_25 : decode cX9_plan 25 = .ok (.getfield 64, 3) := by decide +kernel
theorem dX9_plan_28 : decode cX9_plan 28 = .ok (.bipush 60, 2) := by decide +kernel
theorem dX9_plan_30 : decode cX9_plan 30 = .ok (.iload_n 2, 1) := by decide +kernel
theorem dX9_plan_31 : decode cX9_plan 31 = .ok (.imul, 1) := by decide +kernel
theorem dX9_plan_32 : decode cX9_plan 32 = .ok (.iload_n 1, 1) := by decide +kernel
theorem dX9_plan_33 : decode cX9_plan 33 = .ok (.iadd, 1) := by decide +kernel
theorem dX9_plan_34 : decode cX9_plan 34 = .ok (.iconst (-1), 1) := by decide +kernel
theorem dX9_plan_35 : decode cX9_plan 35 = .ok (.iastore, 1) := by decide +kernel
theorem dX9_plan_36 : decode cX9_plan 36 = .ok (.iinc 2 1, 3) := by decide +kernel
theorem dX9_plan_39 : decode cX9_plan 39 = .ok (.goto (-37), 3) := by decide +kernel
theorem dX9_plan_42 : decode cX9_plan 42 = .ok (.iconst 0, 1) := by decide +kernel
theorem dX9_plan_43 : decode cX9_plan 43 = .ok (.istore_n 2, 1) := by decide +kernel
theorem dX9_plan_44 : decode cX9_plan 44 = .ok (.iload_n 2, 1) := by decide +kernel
theorem dX9_plan_45 : decode cX9_plan 45 = .ok (.iconst 5, 1) := by decide +kernel
theorem dX9_plan_46 : decode cX9_plan 46 = .ok (.if_icmp .ge 16, 3) := by decide +kernel
theorem dX9_plan_49 : decode cX9_plan 49 = .ok (.aload_n 0, 1) := by decide +kernel
theorem dX9_plan_50 : decode cX9_plan 50 = .ok (.getfield 70, 3) := by decide +kernel
theorem dX9_plan_53 : decode cX9_plan 53 = .ok (.iload_n 2, 1) := by decide +kernel
theorem dX9_plan_54 : decode cX9_plan 54 = .ok (.iconst 0, 1) := by decide +kernel
theorem dX9_plan_55 : decode cX9_plan 55 = .ok (.iastore, 1) := by decide +kernel
theorem dX9_plan_56 : decode cX9_plan 56 = .ok (.iinc 2 1, 3) := by decide +kernel
theorem dX9_plan_59 : decode cX9_plan 59 = .ok (.goto (-15), 3) := by decide +kernel
theorem dX9_plan_62 : decode cX9_plan 62 = .ok (.aload_n 0, 1) := by decide +kernel
theorem dX9_plan_63 : decode cX9_plan 63 = .ok (.iload_n 1, 1) := by decide +kernel
theorem dX9_plan_64 : decode cX9_plan 64 = .ok (.invokevirtual 140, 3) := by decide +kernel
theorem dX9_plan_67 : decode cX9_plan 67 = .ok (.aload_n 0, 1) := by decide +kernel
theorem dX9_plan_68 : decode cX9_plan 68 = .ok (.iload_n 1, 1) := by decide +kernel
theorem dX9_plan_69 : decode cX9_plan 69 = .ok (.iconst 2, 1) := by decide +kernel
theorem dX9_plan_70 : decode cX9_plan 70 = .ok (.invokevirtual 151, 3) := by decide +kernel
theorem dX9_plan_73 : decode cX9_plan 73 = .ok (.aload_n 0, 1) := by decide +kernel
theorem dX9_plan_74 : decode cX9_plan 74 = .ok (.iload_n 1, 1) := by decide +kernel
theorem dX9_plan_75 : decode cX9_plan 75 = .ok (.iconst 1, 1) := by decide +kernel
theorem dX9_plan_76 : decode cX9_plan 76 = .ok (.invokevirtual 151, 3) := by decide +kernel
theorem dX9_plan_79 : decode cX9_plan 79 = .ok (.aload_n 0, 1) := by decide +kernel
theorem dX9_plan_80 : decode cX9_plan 80 = .ok (.iload_n 1, 1) := by decide +kernel
theorem dX9_plan_81 : decode cX9_plan 81 = .ok (.iconst 0, 1) := by decide +kernel
theorem dX9_plan_82 : decode cX9_plan 82 = .ok (.invokevirtual 151, 3) := by decide +kernel
theorem dX9_plan_85 : decode cX9_plan 85 = .ok (.iconst 0, 1) := by decide +kernel
theorem dX9_plan_86 : decode cX9_plan 86 = .ok (.istore_n 2, 1) := by decide +kernel
theorem dX9_plan_87 : decode cX9_plan 87 = .ok (.iload_n 2, 1) := by decide +kernel
theorem dX9_plan_88 : decode cX9_plan 88 = .ok (.aload_n 0, 1) := by decide +kernel
theorem dX9_plan_89 : decode cX9_plan 89 = .ok (.getfield 117, 3) := by decide +kernel
theorem dX9_plan_92 : decode cX9_plan 92 = .ok (.if_icmp .ge 72, 3) := by decide +kernel
theorem dX9_plan_95 : decode cX9_plan 95 = .ok (.iload_n 1, 1) := by decide +kernel
theorem dX9_plan_96 : decode cX9_plan 96 = .ok (.ifCond .le 68, 3) := by decide +kernel
theorem dX9_plan_99 : decode cX9_plan 99 = .ok (.aload_n 0, 1) := by decide +kernel
theorem dX9_plan_100 : decode cX9_plan 100 = .ok (.getfield 64, 3) := by decide +kernel
theorem dX9_plan_103 : decode cX9_plan 103 = .ok (.bipush 60, 2) := by decide +kernel
theorem dX9_plan_105 : decode cX9_plan 105 = .ok (.iload_n 2, 1) := by decide +kernel
theorem dX9_plan_106 : decode cX9_plan 106 = .ok (.imul, 1) := by decide +kernel
theorem dX9_plan_107 : decode cX9_plan 107 = .ok (.iload_n 1, 1) := by decide +kernel
theorem dX9_plan_108 : decode cX9_plan 108 = .ok (.iadd, 1) := by decide +kernel
theorem dX9_plan_109 : decode cX9_plan 109 = .ok (.iconst 1, 1) := by decide +kernel
theorem dX9_plan_110 : decode cX9_plan 110 = .ok (.isub, 1) := by decide +kernel
theorem dX9_plan_111 : decode cX9_plan 111 = .ok (.iaload, 1) := by decide +kernel
theorem dX9_plan_112 : decode cX9_plan 112 = .ok (.istore_n 3, 1) := by decide +kernel
theorem dX9_plan_113 : decode cX9_plan 113 = .ok (.aload_n 0, 1) := by decide +kernel
theorem dX9_plan_114 : decode cX9_plan 114 = .ok (.getfield 76, 3) := by decide +kernel
theorem dX9_plan_117 : decode cX9_plan 117 = .ok (.iload_n 2, 1) := by decide +kernel
theorem dX9_plan_118 : decode cX9_plan 118 = .ok (.baload, 1) := by decide +kernel
theorem dX9_plan_119 : decode cX9_plan 119 = .ok (.ifCond .eq 39, 3) := by decide +kernel
theorem dX9_plan_122 : decode cX9_plan 122 = .ok (.iload_n 3, 1) := by decide +kernel
theorem dX9_plan_123 : decode cX9_plan 123 = .ok (.iconst (-1), 1) := by decide +kernel
theorem dX9_plan_124 : decode cX9_plan 124 = .ok (.if_icmp .eq 34, 3) := by decide +kernel
theorem dX9_plan_127 : decode cX9_plan 127 = .ok (.aload_n 0, 1) := by decide +kernel
theorem dX9_plan_128 : decode cX9_plan 128 = .ok (.iload_n 2, 1) := by decide +kernel
theorem dX9_plan_129 : decode cX9_plan 129 = .ok (.iload_n 3, 1) := by decide +kernel
theorem dX9_plan_130 : decode cX9_plan 130 = .ok (.invokevirtual 155, 3) := by decide +kernel
theorem dX9_plan_133 : decode cX9_plan 133 = .ok (.ifCond .ne 6, 3) := by decide +kernel
theorem dX9_plan_136 : decode cX9_plan 136 = .ok (.goto 22, 3) := by decide +kernel
theorem dX9_plan_139 : decode cX9_plan 139 = .ok (.aload_n 0, 1) := by decide +kernel
theorem dX9_plan_140 : decode cX9_plan 140 = .ok (.getfield 79, 3) := by decide +kernel
theorem dX9_plan_143 : decode cX9_plan 143 = .ok (.iload_n 2, 1) := by decide +kernel
theorem dX9_plan_144 : decode cX9_plan 144 = .ok (.iconst 1, 1) := by decide +kernel
theorem dX9_plan_145 : decode cX9_plan 145 = .ok (.bastore, 1) := by decide +kernel
theorem dX9_plan_146 : decode cX9_plan 146 = .ok (.aload_n 0, 1) := by decide +kernel
theorem dX9_plan_147 : decode cX9_plan 147 = .ok (.getfield 64, 3) := by decide +kernel
theorem dX9_plan_150 : decode cX9_plan 150 = .ok (.bipush 60, 2) := by decide +kernel
theorem dX9_plan_152 : decode cX9_plan 152 = .ok (.iload_n 2, 1) := by decide +kernel
theorem dX9_plan_153 : decode cX9_plan 153 = .ok (.imul, 1) := by decide +kernel
theorem dX9_plan_154 : decode cX9_plan 154 = .ok (.iload_n 1, 1) := by decide +kernel
theorem dX9_plan_155 : decode cX9_plan 155 = .ok (.iadd, 1) := by decide +kernel
theorem dX9_plan_156 : decode cX9_plan 156 = .ok (.iload_n 3, 1) := by decide +kernel
theorem dX9_plan_157 : decode cX9_plan 157 = .ok (.iastore, 1) := by decide +kernel
theorem dX9_plan_158 : decode cX9_plan 158 = .ok (.iinc 2 1, 3) := by decide +kernel
theorem dX9_plan_161 : decode cX9_plan 161 = .ok (.goto (-74), 3) := by decide +kernel
theorem dX9_plan_164 : decode cX9_plan 164 = .ok (.iconst 0, 1) := by decide +kernel
theorem dX9_plan_165 : decode cX9_plan 165 = .ok (.istore_n 2, 1) := by decide +kernel
theorem dX9_plan_166 : decode cX9_plan 166 = .ok (.iload_n 2, 1) := by decide +kernel
theorem dX9_plan_167 : decode cX9_plan 167 = .ok (.aload_n 0, 1) := by decide +kernel
theorem dX9_plan_168 : decode cX9_plan 168 = .ok (.getfield 117, 3) := by decide +kernel
theorem dX9_plan_171 : decode cX9_plan 171 = .ok (.if_icmp .ge 80, 3) := by decide +kernel
theorem dX9_plan_174 : decode cX9_plan 174 = .ok (.iconst 0, 1) := by decide +kernel
theorem dX9_plan_175 : decode cX9_plan 175 = .ok (.istore_n 3, 1) := by decide +kernel
theorem dX9_plan_176 : decode cX9_plan 176 = .ok (.iload_n 3, 1) := by decide +kernel
theorem dX9_plan_177 : decode cX9_plan 177 = .ok (.sipush 512, 3) := by decide +kernel
theorem dX9_plan_180 : decode cX9_plan 180 = .ok (.if_icmp .ge 65, 3) := by decide +kernel
theorem dX9_plan_183 : decode cX9_plan 183 = .ok (.aload_n 0, 1) := by decide +kernel
theorem dX9_plan_184 : decode cX9_plan 184 = .ok (.getfield 76, 3) := by decide +kernel
theorem dX9_plan_187 : decode cX9_plan 187 = .ok (.iload_n 2, 1) := by decide +kernel
theorem dX9_plan_188 : decode cX9_plan 188 = .ok (.baload, 1) := by decide +kernel
theorem dX9_plan_189 : decode cX9_plan 189 = .ok (.ifCond .eq 56, 3) := by decide +kernel
theorem dX9_plan_192 : decode cX9_plan 192 = .ok (.aload_n 0, 1) := by decide +kernel
theorem dX9_plan_193 : decode cX9_plan 193 = .ok (.getfield 79, 3) := by decide +kernel
theorem dX9_plan_196 : decode cX9_plan 196 = .ok (.iload_n 2, 1) := by decide +kernel
theorem dX9_plan_197 : decode cX9_plan 197 = .ok (.baload, 1) := by decide +kernel
theorem dX9_plan_198 : decode cX9_plan 198 = .ok (.ifCond .ne 47, 3) := by decide +kernel
theorem dX9_plan_201 : decode cX9_plan 201 = .ok (.iload_n 3, 1) := by decide +kernel
theorem dX9_plan_202 : decode cX9_plan 202 = .ok (.iconst 4, 1) := by decide +kernel
theorem dX9_plan_203 : decode cX9_plan 203 = .ok (.irem, 1) := by decide +kernel
theorem dX9_plan_204 : decode cX9_plan 204 = .ok (.iconst 1, 1) := by decide +kernel
theorem dX9_plan_205 : decode cX9_plan 205 = .ok (.if_icmp .gt 34, 3) := by decide +kernel
theorem dX9_plan_208 : decode cX9_plan 208 = .ok (.aload_n 0, 1) := by decide +kernel
theorem dX9_plan_209 : decode cX9_plan 209 = .ok (.iload_n 2, 1) := by decide +kernel
theorem dX9_plan_210 : decode cX9_plan 210 = .ok (.iload_n 3, 1) := by decide +kernel
theorem dX9_plan_211 : decode cX9_plan 211 = .ok (.invokevirtual 155, 3) := by decide +kernel
theorem dX9_plan_214 : decode cX9_plan 214 = .ok (.ifCond .ne 6, 3) := by decide +kernel
theorem dX9_plan_217 : decode cX9_plan 217 = .ok (.goto 22, 3) := by decide +kernel
theorem dX9_plan_220 : decode cX9_plan 220 = .ok (.aload_n 0, 1) := by decide +kernel
theorem dX9_plan_221 : decode cX9_plan 221 = .ok (.getfield 79, 3) := by decide +kernel
theorem dX9_plan_224 : decode cX9_plan 224 = .ok (.iload_n 2, 1) := by decide +kernel
theorem dX9_plan_225 : decode cX9_plan 225 = .ok (.iconst 1, 1) := by decide +kernel
theorem dX9_plan_226 : decode cX9_plan 226 = .ok (.bastore, 1) := by decide +kernel
theorem dX9_plan_227 : decode cX9_plan 227 = .ok (.aload_n 0, 1) := by decide +kernel
theorem dX9_plan_228 : decode cX9_plan 228 = .ok (.getfield 64, 3) := by decide +kernel
theorem dX9_plan_231 : decode cX9_plan 231 = .ok (.bipush 60, 2) := by decide +kernel
theorem dX9_plan_233 : decode cX9_plan 233 = .ok (.iload_n 2, 1) := by decide +kernel
theorem dX9_plan_234 : decode cX9_plan 234 = .ok (.imul, 1) := by decide +kernel
theorem dX9_plan_235 : decode cX9_plan 235 = .ok (.iload_n 1, 1) := by decide +kernel
theorem dX9_plan_236 : decode cX9_plan 236 = .ok (.iadd, 1) := by decide +kernel
theorem dX9_plan_237 : decode cX9_plan 237 = .ok (.iload_n 3, 1) := by decide +kernel
theorem dX9_plan_238 : decode cX9_plan 238 = .ok (.iastore, 1) := by decide +kernel
theorem dX9_plan_239 : decode cX9_plan 239 = .ok (.iinc 3 1, 3) := by decide +kernel
theorem dX9_plan_242 : decode cX9_plan 242 = .ok (.goto (-66), 3) := by decide +kernel
theorem dX9_plan_245 : decode cX9_plan 245 = .ok (.iinc 2 1, 3) := by decide +kernel
theorem dX9_plan_248 : decode cX9_plan 248 = .ok (.goto (-82), 3) := by decide +kernel
theorem dX9_plan_251 : decode cX9_plan 251 = .ok (.return_, 1) := by decide +kernel
theorem dX9_plans_0 : decode cX9_plans 0 = .ok (.aload_n 0, 1) := by decide +kernel
theorem dX9_plans_1 : decode cX9_plans 1 = .ok (.getfield 158, 3) := by decide +kernel
theorem dX9_plans_4 : decode cX9_plans 4 = .ok (.istore_n 1, 1) := by decide +kernel
theorem dX9_plans_5 : decode cX9_plans 5 = .ok (.iload_n 1, 1) := by decide +kernel
theorem dX9_plans_6 : decode cX9_plans 6 = .ok (.bipush 60, 2) := by decide +kernel
theorem dX9_plans_8 : decode cX9_plans 8 = .ok (.if_icmp .ge 14, 3) := by decide +kernel
theorem dX9_plans_11 : decode cX9_plans 11 = .ok (.aload_n 0, 1) := by decide +kernel
theorem dX9_plans_12 : decode cX9_plans 12 = .ok (.iload_n 1, 1) := by decide +kernel
theorem dX9_plans_13 : decode cX9_plans 13 = .ok (.invokevirtual 161, 3) := by decide +kernel
theorem dX9_plans_16 : decode cX9_plans 16 = .ok (.iinc 1 1, 3) := by decide +kernel
theorem dX9_plans_19 : decode cX9_plans 19 = .ok (.goto (-14), 3) := by decide +kernel
theorem dX9_plans_22 : decode cX9_plans 22 = .ok (.return_, 1) := by decide +kernel
theorem dX9_costOf_0 : decode cX9_costOf 0 = .ok (.lconst 0, 1) := by decide +kernel
theorem dX9_costOf_1 : decode cX9_costOf 1 = .ok (.lstore 4, 2) := by decide +kernel
theorem dX9_costOf_3 : decode cX9_costOf 3 = .ok (.iload_n 2, 1) := by decide +kernel
theorem dX9_costOf_4 : decode cX9_costOf 4 = .ok (.istore 6, 2) := by decide +kernel
theorem dX9_costOf_6 : decode cX9_costOf 6 = .ok (.iload 6, 2) := by decide +kernel
theorem dX9_costOf_8 : decode cX9_costOf 8 = .ok (.iload_n 3, 1) := by decide +kernel
theorem dX9_costOf_9 : decode cX9_costOf 9 = .ok (.if_icmp .ge 27, 3) := by decide +kernel
theorem dX9_costOf_12 : decode cX9_costOf 12 = .ok (.lload 4, 2) := by decide +kernel
theorem dX9_costOf_14 : decode cX9_costOf 14 = .ok (.aload_n 0, 1) := by decide +kernel
theorem dX9_costOf_15 : decode cX9_costOf 15 = .ok (.getfield 82, 3) := by decide +kernel
theorem dX9_costOf_18 : decode cX9_costOf 18 = .ok (.bipush 60, 2) := by decide +kernel
theorem dX9_costOf_20 : decode cX9_costOf 20 = .ok (.iload_n 1, 1) := by decide +kernel
theorem dX9_costOf_21 : decode cX9_costOf 21 = .ok (.imul, 1) := by decide +kernel
theorem dX9_costOf_22 : decode cX9_costOf 22 = .ok (.iload 6, 2) := by decide +kernel
theorem dX9_costOf_24 : decode cX9_costOf 24 = .ok (.iadd, 1) := by decide +kernel
theorem dX9_costOf_25 : decode cX9_costOf 25 = .ok (.iaload, 1) := by decide +kernel
theorem dX9_costOf_26 : decode cX9_costOf 26 = .ok (.i2l, 1) := by decide +kernel
theorem dX9_costOf_27 : decode cX9_costOf 27 = .ok (.ladd, 1) := by decide +kernel
theorem dX9_costOf_28 : decode cX9_costOf 28 = .ok (.lstore 4, 2) := by decide +kernel
theorem dX9_costOf_30 : decode cX9_costOf 30 = .ok (.iinc 6 1, 3) := by decide +kernel
theorem dX9_costOf_33 : decode cX9_costOf 33 = .ok (.goto (-27), 3) := by decide +kernel
theorem dX9_costOf_36 : decode cX9_costOf 36 = .ok (.ldc2_w 164, 3) := by decide +kernel
theorem dX9_costOf_39 : decode cX9_costOf 39 = .ok (.lstore 6, 2) := by decide +kernel
theorem dX9_costOf_41 : decode cX9_costOf 41 = .ok (.iconst 0, 1) := by decide +kernel
theorem dX9_costOf_42 : decode cX9_costOf 42 = .ok (.istore 8, 2) := by decide +kernel
theorem dX9_costOf_44 : decode cX9_costOf 44 = .ok (.iload 8, 2) := by decide +kernel
theorem dX9_costOf_46 : decode cX9_costOf 46 = .ok (.aload_n 0, 1) := by decide +kernel
theorem dX9_costOf_47 : decode cX9_costOf 47 = .ok (.getfield 166, 3) := by decide +kernel
theorem dX9_costOf_50 : decode cX9_costOf 50 = .ok (.if_icmp .ge 135, 3) := by decide +kernel
theorem dX9_costOf_53 : decode cX9_costOf 53 = .ok (.aload_n 0, 1) := by decide +kernel
theorem dX9_costOf_54 : decode cX9_costOf 54 = .ok (.getfield 94, 3) := by decide +kernel
theorem dX9_costOf_57 : decode cX9_costOf 57 = .ok (.iload 8, 2) := by decide +kernel
theorem dX9_costOf_59 : decode cX9_costOf 59 = .ok (.baload, 1) := by decide +kernel
theorem dX9_costOf_60 : decode cX9_costOf 60 = .ok (.ifCond .ne 6, 3) := by decide +kernel
theorem dX9_costOf_63 : decode cX9_costOf 63 = .ok (.goto 116, 3) := by decide +kernel
theorem dX9_costOf_66 : decode cX9_costOf 66 = .ok (.aload_n 0, 1) := by decide +kernel
theorem dX9_costOf_67 : decode cX9_costOf 67 = .ok (.getfield 85, 3) := by decide +kernel
theorem dX9_costOf_70 : decode cX9_costOf 70 = .ok (.iload 8, 2) := by decide +kernel
theorem dX9_costOf_72 : decode cX9_costOf 72 = .ok (.iaload, 1) := by decide +kernel
theorem dX9_costOf_73 : decode cX9_costOf 73 = .ok (.iconst 2, 1) := by decide +kernel
theorem dX9_costOf_74 : decode cX9_costOf 74 = .ok (.if_icmp .ne 42, 3) := by decide +kernel
theorem dX9_costOf_77 : decode cX9_costOf 77 = .ok (.aload_n 0, 1) := by decide +kernel
theorem dX9_costOf_78 : decode cX9_costOf 78 = .ok (.getfield 88, 3) := by decide +kernel
theorem dX9_costOf_81 : decode cX9_costOf 81 = .ok (.iload 8, 2) := by decide +kernel
theorem dX9_costOf_83 : decode cX9_costOf 83 = .ok (.iaload, 1) := by decide +kernel
theorem dX9_costOf_84 : decode cX9_costOf 84 = .ok (.iload_n 2, 1) := by decide +kernel
theorem dX9_costOf_85 : decode cX9_costOf 85 = .ok (.if_icmp .lt 31, 3) := by decide +kernel
theorem dX9_costOf_88 : decode cX9_costOf 88 = .ok (.aload_n 0, 1) := by decide +kernel
theorem dX9_costOf_89 : decode cX9_costOf 89 = .ok (.getfield 88, 3) := by decide +kernel
theorem dX9_costOf_92 : decode cX9_costOf 92 = .ok (.iload 8, 2) := by decide +kernel
theorem dX9_costOf_94 : decode cX9_costOf 94 = .ok (.iaload, 1) := by decide +kernel
theorem dX9_costOf_95 : decode cX9_costOf 95 = .ok (.iload_n 3, 1) := by decide +kernel
theorem dX9_costOf_96 : decode cX9_costOf 96 = .ok (.if_icmp .ge 20, 3) := by decide +kernel
theorem dX9_costOf_99 : decode cX9_costOf 99 = .ok (.aload_n 0, 1) := by decide +kernel
theorem dX9_costOf_100 : decode cX9_costOf 100 = .ok (.getfield 88, 3) := by decide +kernel
theorem dX9_costOf_103 : decode cX9_costOf 103 = .ok (.iload 8, 2) := by decide +kernel
theorem dX9_costOf_105 : decode cX9_costOf 105 = .ok (.iaload, 1) := by decide +kernel
theorem dX9_costOf_106 : decode cX9_costOf 106 = .ok (.iconst 1, 1) := by decide +kernel
theorem dX9_costOf_107 : decode cX9_costOf 107 = .ok (.iadd, 1) := by decide +kernel
theorem dX9_costOf_108 : decode cX9_costOf 108 = .ok (.iload_n 3, 1) := by decide +kernel
theorem dX9_costOf_109 : decode cX9_costOf 109 = .ok (.if_icmp .lt 7, 3) := by decide +kernel
theorem dX9_costOf_112 : decode cX9_costOf 112 = .ok (.ldc2_w 169, 3) := by decide +kernel
theorem dX9_costOf_115 : decode cX9_costOf 115 = .ok (.lreturn, 1) := by decide +kernel
theorem dX9_costOf_116 : decode cX9_costOf 116 = .ok (.aload_n 0, 1) := by decide +kernel
theorem dX9_costOf_117 : decode cX9_costOf 117 = .ok (.getfield 85, 3) := by decide +kernel
theorem dX9_costOf_120 : decode cX9_costOf 120 = .ok (.iload 8, 2) := by decide +kernel
theorem dX9_costOf_122 : decode cX9_costOf 122 = .ok (.iaload, 1) := by decide +kernel
theorem dX9_costOf_123 : decode cX9_costOf 123 = .ok (.ifCond .ne 16, 3) := by decide +kernel
theorem dX9_costOf_126 : decode cX9_costOf 126 = .ok (.iload_n 3, 1) := by decide +kernel
theorem dX9_costOf_127 : decode cX9_costOf 127 = .ok (.iload_n 2, 1) := by decide +kernel
theorem dX9_costOf_128 : decode cX9_costOf 128 = .ok (.isub, 1) := by decide +kernel
theorem dX9_costOf_129 : decode cX9_costOf 129 = .ok (.aload_n 0, 1) := by decide +kernel
theorem dX9_costOf_130 : decode cX9_costOf 130 = .ok (.getfield 88, 3) := by decide +kernel
theorem dX9_costOf_133 : decode cX9_costOf 133 = .ok (.iload 8, 2) := by decide +kernel
theorem dX9_costOf_135 : decode cX9_costOf 135 = .ok (.iaload, 1) := by decide +kernel
theorem dX9_costOf_136 : decode cX9_costOf 136 = .ok (.if_icmp .ge 30, 3) := by decide +kernel
theorem dX9_costOf_139 : decode cX9_costOf 139 = .ok (.aload_n 0, 1) := by decide +kernel
theorem dX9_costOf_140 : decode cX9_costOf 140 = .ok (.getfield 85, 3) := by decide +kernel
theorem dX9_costOf_143 : decode cX9_costOf 143 = .ok (.iload 8, 2) := by decide +kernel
theorem dX9_costOf_145 : decode cX9_costOf 145 = .ok (.iaload, 1) := by decide +kernel
theorem dX9_costOf_146 : decode cX9_costOf 146 = .ok (.iconst 1, 1) := by decide +kernel
theorem dX9_costOf_147 : decode cX9_costOf 147 = .ok (.if_icmp .ne 32, 3) := by decide +kernel
theorem dX9_costOf_150 : decode cX9_costOf 150 = .ok (.iload_n 2, 1) := by decide +kernel
theorem dX9_costOf_151 : decode cX9_costOf 151 = .ok (.aload_n 0, 1) := by decide +kernel
theorem dX9_costOf_152 : decode cX9_costOf 152 = .ok (.getfield 158, 3) := by decide +kernel
theorem dX9_costOf_155 : decode cX9_costOf 155 = .ok (.isub, 1) := by decide +kernel
theorem dX9_costOf_156 : decode cX9_costOf 156 = .ok (.aload_n 0, 1) := by decide +kernel
theorem dX9_costOf_157 : decode cX9_costOf 157 = .ok (.getfield 88, 3) := by decide +kernel
theorem dX9_costOf_160 : decode cX9_costOf 160 = .ok (.iload 8, 2) := by decide +kernel
theorem dX9_costOf_162 : decode cX9_costOf 162 = .ok (.iaload, 1) := by decide +kernel
theorem dX9_costOf_163 : decode cX9_costOf 163 = .ok (.if_icmp .lt 16, 3) := by decide +kernel
theorem dX9_costOf_166 : decode cX9_costOf 166 = .ok (.lload 6, 2) := by decide +kernel
theorem dX9_costOf_168 : decode cX9_costOf 168 = .ok (.aload_n 0, 1) := by decide +kernel
theorem dX9_costOf_169 : decode cX9_costOf 169 = .ok (.getfield 91, 3) := by decide +kernel
theorem dX9_costOf_172 : decode cX9_costOf 172 = .ok (.iload 8, 2) := by decide +kernel
theorem dX9_costOf_174 : decode cX9_costOf 174 = .ok (.iaload, 1) := by decide +kernel
theorem dX9_costOf_175 : decode cX9_costOf 175 = .ok (.i2l, 1) := by decide +kernel
theorem dX9_costOf_176 : decode cX9_costOf 176 = .ok (.ladd, 1) := by decide +kernel
theorem dX9_costOf_177 : decode cX9_costOf 177 = .ok (.lstore 6, 2) := by decide +kernel
theorem dX9_costOf_179 : decode cX9_costOf 179 = .ok (.iinc 8 1, 3) := by decide +kernel
theorem dX9_costOf_182 : decode cX9_costOf 182 = .ok (.goto (-138), 3) := by decide +kernel
theorem dX9_costOf_185 : decode cX9_costOf 185 = .ok (.lload 6, 2) := by decide +kernel
theorem dX9_costOf_187 : decode cX9_costOf 187 = .ok (.lconst 0, 1) := by decide +kernel
theorem dX9_costOf_188 : decode cX9_costOf 188 = .ok (.lcmp, 1) := by decide +kernel
theorem dX9_costOf_189 : decode cX9_costOf 189 = .ok (.ifCond .ge 7, 3) := by decide +kernel
theorem dX9_costOf_192 : decode cX9_costOf 192 = .ok (.lconst 0, 1) := by decide +kernel
theorem dX9_costOf_193 : decode cX9_costOf 193 = .ok (.goto 12, 3) := by decide +kernel
theorem dX9_costOf_196 : decode cX9_costOf 196 = .ok (.lload 4, 2) := by decide +kernel
theorem dX9_costOf_198 : decode cX9_costOf 198 = .ok (.lload 6, 2) := by decide +kernel
theorem dX9_costOf_200 : decode cX9_costOf 200 = .ok (.lmul, 1) := by decide +kernel
theorem dX9_costOf_201 : decode cX9_costOf 201 = .ok (.ldc2_w 164, 3) := by decide +kernel
theorem dX9_costOf_204 : decode cX9_costOf 204 = .ok (.ldiv, 1) := by decide +kernel
theorem dX9_costOf_205 : decode cX9_costOf 205 = .ok (.lreturn, 1) := by decide +kernel
theorem dX9_ways_0 : decode cX9_ways 0 = .ok (.aload_n 0, 1) := by decide +kernel
theorem dX9_ways_1 : decode cX9_ways 1 = .ok (.getfield 97, 3) := by decide +kernel
theorem dX9_ways_4 : decode cX9_ways 4 = .ok (.iload_n 2, 1) := by decide +kernel
theorem dX9_ways_5 : decode cX9_ways 5 = .ok (.lconst 0, 1) := by decide +kernel
theorem dX9_ways_6 : decode cX9_ways 6 = .ok (.lastore, 1) := by decide +kernel
theorem dX9_ways_7 : decode cX9_ways 7 = .ok (.aload_n 0, 1) := by decide +kernel
theorem dX9_ways_8 : decode cX9_ways 8 = .ok (.getfield 100, 3) := by decide +kernel
theorem dX9_ways_11 : decode cX9_ways 11 = .ok (.iload_n 2, 1) := by decide +kernel
theorem dX9_ways_12 : decode cX9_ways 12 = .ok (.iconst 0, 1) := by decide +kernel
theorem dX9_ways_13 : decode cX9_ways 13 = .ok (.iastore, 1) := by decide +kernel
theorem dX9_ways_14 : decode cX9_ways 14 = .ok (.iload_n 2, 1) := by decide +kernel
theorem dX9_ways_15 : decode cX9_ways 15 = .ok (.iconst 1, 1) := by decide +kernel
theorem dX9_ways_16 : decode cX9_ways 16 = .ok (.iadd, 1) := by decide +kernel
theorem dX9_ways_17 : decode cX9_ways 17 = .ok (.istore 4, 2) := by decide +kernel
theorem dX9_ways_19 : decode cX9_ways 19 = .ok (.iload 4, 2) := by decide +kernel
theorem dX9_ways_21 : decode cX9_ways 21 = .ok (.iload_n 3, 1) := by decide +kernel
theorem dX9_ways_22 : decode cX9_ways 22 = .ok (.if_icmp .gt 174, 3) := by decide +kernel
theorem dX9_ways_25 : decode cX9_ways 25 = .ok (.aload_n 0, 1) := by decide +kernel
theorem dX9_ways_26 : decode cX9_ways 26 = .ok (.getfield 97, 3) := by decide +kernel
theorem dX9_ways_29 : decode cX9_ways 29 = .ok (.iload 4, 2) := by decide +kernel
theorem dX9_ways_31 : decode cX9_ways 31 = .ok (.ldc2_w 169, 3) := by decide +kernel
theorem dX9_ways_34 : decode cX9_ways 34 = .ok (.lastore, 1) := by decide +kernel
theorem dX9_ways_35 : decode cX9_ways 35 = .ok (.iload_n 2, 1) := by decide +kernel
theorem dX9_ways_36 : decode cX9_ways 36 = .ok (.istore 5, 2) := by decide +kernel
theorem dX9_ways_38 : decode cX9_ways 38 = .ok (.iload 5, 2) := by decide +kernel
theorem dX9_ways_40 : decode cX9_ways 40 = .ok (.iload 4, 2) := by decide +kernel
theorem dX9_ways_42 : decode cX9_ways 42 = .ok (.if_icmp .ge 148, 3) := by decide +kernel
theorem dX9_ways_45 : decode cX9_ways 45 = .ok (.aload_n 0, 1) := by decide +kernel
theorem dX9_ways_46 : decode cX9_ways 46 = .ok (.getfield 97, 3) := by decide +kernel
theorem dX9_ways_49 : decode cX9_ways 49 = .ok (.iload 5, 2) := by decide +kernel
theorem dX9_ways_51 : decode cX9_ways 51 = .ok (.laload, 1) := by decide +kernel
theorem dX9_ways_52 : decode cX9_ways 52 = .ok (.ldc2_w 169, 3) := by decide +kernel
theorem dX9_ways_55 : decode cX9_ways 55 = .ok (.lcmp, 1) := by decide +kernel
theorem dX9_ways_56 : decode cX9_ways 56 = .ok (.ifCond .ne 9, 3) := by decide +kernel
theorem dX9_ways_59 : decode cX9_ways 59 = .ok (.ldc2_w 169, 3) := by decide +kernel
theorem dX9_ways_62 : decode cX9_ways 62 = .ok (.goto 12, 3) := by decide +kernel
theorem dX9_ways_65 : decode cX9_ways 65 = .ok (.aload_n 0, 1) := by decide +kernel
theorem dX9_ways_66 : decode cX9_ways 66 = .ok (.iload_n 1, 1) := by decide +kernel
theorem dX9_ways_67 : decode cX9_ways 67 = .ok (.iload 5, 2) := by decide +kernel
theorem dX9_ways_69 : decode cX9_ways 69 = .ok (.iload 4, 2) := by decide +kernel
theorem dX9_ways_71 : decode cX9_ways 71 = .ok (.invokevirtual 171, 3) := by decide +kernel
theorem dX9_ways_74 : decode cX9_ways 74 = .ok (.lstore 6, 2) := by decide +kernel
theorem dX9_ways_76 : decode cX9_ways 76 = .ok (.lload 6, 2) := by decide +kernel
theorem dX9_ways_78 : decode cX9_ways 78 = .ok (.ldc2_w 169, 3) := by decide +kernel
theorem dX9_ways_81 : decode cX9_ways 81 = .ok (.lcmp, 1) := by decide +kernel
theorem dX9_ways_82 : decode cX9_ways 82 = .ok (.ifCond .ne 6, 3) := by decide +kernel
theorem dX9_ways_85 : decode cX9_ways 85 = .ok (.goto 99, 3) := by decide +kernel
theorem dX9_ways_88 : decode cX9_ways 88 = .ok (.lload 6, 2) := by decide +kernel
theorem dX9_ways_90 : decode cX9_ways 90 = .ok (.aload_n 0, 1) := by decide +kernel
theorem dX9_ways_91 : decode cX9_ways 91 = .ok (.getfield 97, 3) := by decide +kernel
theorem dX9_ways_94 : decode cX9_ways 94 = .ok (.iload 5, 2) := by decide +kernel
theorem dX9_ways_96 : decode cX9_ways 96 = .ok (.laload, 1) := by decide +kernel
theorem dX9_ways_97 : decode cX9_ways 97 = .ok (.ladd, 1) := by decide +kernel
theorem dX9_ways_98 : decode cX9_ways 98 = .ok (.lstore 6, 2) := by decide +kernel
theorem dX9_ways_100 : decode cX9_ways 100 = .ok (.aload_n 0, 1) := by decide +kernel
theorem dX9_ways_101 : decode cX9_ways 101 = .ok (.getfield 100, 3) := by decide +kernel
theorem dX9_ways_104 : decode cX9_ways 104 = .ok (.iload 5, 2) := by decide +kernel
theorem dX9_ways_106 : decode cX9_ways 106 = .ok (.iaload, 1) := by decide +kernel
theorem dX9_ways_107 : decode cX9_ways 107 = .ok (.iconst 1, 1) := by decide +kernel
theorem dX9_ways_108 : decode cX9_ways 108 = .ok (.iadd, 1) := by decide +kernel
theorem dX9_ways_109 : decode cX9_ways 109 = .ok (.istore 8, 2) := by decide +kernel
theorem dX9_ways_111 : decode cX9_ways 111 = .ok (.aload_n 0, 1) := by decide +kernel
theorem dX9_ways_112 : decode cX9_ways 112 = .ok (.getfield 97, 3) := by decide +kernel
theorem dX9_ways_115 : decode cX9_ways 115 = .ok (.iload 4, 2) := by decide +kernel
theorem dX9_ways_117 : decode cX9_ways 117 = .ok (.laload, 1) := by decide +kernel
theorem dX9_ways_118 : decode cX9_ways 118 = .ok (.ldc2_w 169, 3) := by decide +kernel
theorem dX9_ways_121 : decode cX9_ways 121 = .ok (.lcmp, 1) := by decide +kernel
theorem dX9_ways_122 : decode cX9_ways 122 = .ok (.ifCond .eq 44, 3) := by decide +kernel
theorem dX9_ways_125 : decode cX9_ways 125 = .ok (.aload_n 0, 1) := by decide +kernel
theorem dX9_ways_126 : decode cX9_ways 126 = .ok (.getfield 97, 3) := by decide +kernel
theorem dX9_ways_129 : decode cX9_ways 129 = .ok (.iload 4, 2) := by decide +kernel
theorem dX9_ways_131 : decode cX9_ways 131 = .ok (.laload, 1) := by decide +kernel
theorem dX9_ways_132 : decode cX9_ways 132 = .ok (.lload 6, 2) := by decide +kernel
theorem dX9_ways_134 : decode cX9_ways 134 = .ok (.lcmp, 1) := by decide +kernel
theorem dX9_ways_135 : decode cX9_ways 135 = .ok (.ifCond .lt 49, 3) := by decide +kernel
theorem dX9_ways_138 : decode cX9_ways 138 = .ok (.aload_n 0, 1) := by decide +kernel
theorem dX9_ways_139 : decode cX9_ways 139 = .ok (.getfield 97, 3) := by decide +kernel
theorem dX9_ways_142 : decode cX9_ways 142 = .ok (.iload 4, 2) := by decide +kernel
theorem dX9_ways_144 : decode cX9_ways 144 = .ok (.laload, 1) := by decide +kernel
theorem dX9_ways_145 : decode cX9_ways 145 = .ok (.lload 6, 2) := by decide +kernel
theorem dX9_ways_147 : decode cX9_ways 147 = .ok (.lcmp, 1) := by decide +kernel
theorem dX9_ways_148 : decode cX9_ways 148 = .ok (.ifCond .ne 18, 3) := by decide +kernel
theorem dX9_ways_151 : decode cX9_ways 151 = .ok (.aload_n 0, 1) := by decide +kernel
theorem dX9_ways_152 : decode cX9_ways 152 = .ok (.getfield 100, 3) := by decide +kernel
theorem dX9_ways_155 : decode cX9_ways 155 = .ok (.iload 4, 2) := by decide +kernel
theorem dX9_ways_157 : decode cX9_ways 157 = .ok (.iaload, 1) := by decide +kernel
theorem dX9_ways_158 : decode cX9_ways 158 = .ok (.iload 8, 2) := by decide +kernel
theorem dX9_ways_160 : decode cX9_ways 160 = .ok (.if_icmp .gt 6, 3) := by decide +kernel
theorem dX9_ways_163 : decode cX9_ways 163 = .ok (.goto 21, 3) := by decide +kernel
theorem dX9_ways_166 : decode cX9_ways 166 = .ok (.aload_n 0, 1) := by decide +kernel
theorem dX9_ways_167 : decode cX9_ways 167 = .ok (.getfield 97, 3) := by decide +kernel
theorem dX9_ways_170 : decode cX9_ways 170 = .ok (.iload 4, 2) := by decide +kernel
theorem dX9_ways_172 : decode cX9_ways 172 = .ok (.lload 6, 2) := by decide +kernel
theorem dX9_ways_174 : decode cX9_ways 174 = .ok (.lastore, 1) := by decide +kernel
theorem dX9_ways_175 : decode cX9_ways 175 = .ok (.aload_n 0, 1) := by decide +kernel
theorem dX9_ways_176 : decode cX9_ways 176 = .ok (.getfield 100, 3) := by decide +kernel
theorem dX9_ways_179 : decode cX9_ways 179 = .ok (.iload 4, 2) := by decide +kernel
theorem dX9_ways_181 : decode cX9_ways 181 = .ok (.iload 8, 2) := by decide +kernel
theorem dX9_ways_183 : decode cX9_ways 183 = .ok (.iastore, 1) := by decide +kernel
theorem dX9_ways_184 : decode cX9_ways 184 = .ok (.iinc 5 1, 3) := by decide +kernel
theorem dX9_ways_187 : decode cX9_ways 187 = .ok (.goto (-149), 3) := by decide +kernel
theorem dX9_ways_190 : decode cX9_ways 190 = .ok (.iinc 4 1, 3) := by decide +kernel
theorem dX9_ways_193 : decode cX9_ways 193 = .ok (.goto (-174), 3) := by decide +kernel
theorem dX9_ways_196 : decode cX9_ways 196 = .ok (.return_, 1) := by decide +kernel
theorem dX9_isWish_0 : decode cX9_isWish 0 = .ok (.iload_n 1, 1) := by decide +kernel
theorem dX9_isWish_1 : decode cX9_isWish 1 = .ok (.ifCond .lt 31, 3) := by decide +kernel
theorem dX9_isWish_4 : decode cX9_isWish 4 = .ok (.iload_n 1, 1) := by decide +kernel
theorem dX9_isWish_5 : decode cX9_isWish 5 = .ok (.iconst 5, 1) := by decide +kernel
theorem dX9_isWish_6 : decode cX9_isWish 6 = .ok (.if_icmp .ge 26, 3) := by decide +kernel
theorem dX9_isWish_9 : decode cX9_isWish 9 = .ok (.iload_n 2, 1) := by decide +kernel
theorem dX9_isWish_10 : decode cX9_isWish 10 = .ok (.aload_n 0, 1) := by decide +kernel
theorem dX9_isWish_11 : decode cX9_isWish 11 = .ok (.getfield 158, 3) := by decide +kernel
theorem dX9_isWish_14 : decode cX9_isWish 14 = .ok (.if_icmp .lt 18, 3) := by decide +kernel
theorem dX9_isWish_17 : decode cX9_isWish 17 = .ok (.iload_n 3, 1) := by decide +kernel
theorem dX9_isWish_18 : decode cX9_isWish 18 = .ok (.iload_n 2, 1) := by decide +kernel
theorem dX9_isWish_19 : decode cX9_isWish 19 = .ok (.if_icmp .le 13, 3) := by decide +kernel
theorem dX9_isWish_22 : decode cX9_isWish 22 = .ok (.iload_n 3, 1) := by decide +kernel
theorem dX9_isWish_23 : decode cX9_isWish 23 = .ok (.bipush 60, 2) := by decide +kernel
theorem dX9_isWish_25 : decode cX9_isWish 25 = .ok (.if_icmp .gt 7, 3) := by decide +kernel
theorem dX9_isWish_28 : decode cX9_isWish 28 = .ok (.iconst 1, 1) := by decide +kernel
theorem dX9_isWish_29 : decode cX9_isWish 29 = .ok (.goto 4, 3) := by decide +kernel
theorem dX9_isWish_32 : decode cX9_isWish 32 = .ok (.iconst 0, 1) := by decide +kernel
theorem dX9_isWish_33 : decode cX9_isWish 33 = .ok (.ireturn, 1) := by decide +kernel
theorem dX9_isParty_0 : decode cX9_isParty 0 = .ok (.iload_n 1, 1) := by decide +kernel
theorem dX9_isParty_1 : decode cX9_isParty 1 = .ok (.iconst 1, 1) := by decide +kernel
theorem dX9_isParty_2 : decode cX9_isParty 2 = .ok (.if_icmp .lt 30, 3) := by decide +kernel
theorem dX9_isParty_5 : decode cX9_isParty 5 = .ok (.iload_n 1, 1) := by decide +kernel
theorem dX9_isParty_6 : decode cX9_isParty 6 = .ok (.iload_n 0, 1) := by decide +kernel
theorem dX9_isParty_7 : decode cX9_isParty 7 = .ok (.iconst 2, 1) := by decide +kernel
theorem dX9_isParty_8 : decode cX9_isParty 8 = .ok (.if_icmp .ge 7, 3) := by decide +kernel
theorem dX9_isParty_11 : decode cX9_isParty 11 = .ok (.iconst 1, 1) := by decide +kernel
theorem dX9_isParty_12 : decode cX9_isParty 12 = .ok (.goto 13, 3) := by decide +kernel
theorem dX9_isParty_15 : decode cX9_isParty 15 = .ok (.iload_n 0, 1) := by decide +kernel
theorem dX9_isParty_16 : decode cX9_isParty 16 = .ok (.iconst 4, 1) := by decide +kernel
theorem dX9_isParty_17 : decode cX9_isParty 17 = .ok (.if_icmp .ne 7, 3) := by decide +kernel
theorem dX9_isParty_20 : decode cX9_isParty 20 = .ok (.iconst 4, 1) := by decide +kernel
theorem dX9_isParty_21 : decode cX9_isParty 21 = .ok (.goto 4, 3) := by decide +kernel
theorem dX9_isParty_24 : decode cX9_isParty 24 = .ok (.iconst 2, 1) := by decide +kernel
theorem dX9_isParty_25 : decode cX9_isParty 25 = .ok (.if_icmp .gt 7, 3) := by decide +kernel
theorem dX9_isParty_28 : decode cX9_isParty 28 = .ok (.iconst 1, 1) := by decide +kernel
theorem dX9_isParty_29 : decode cX9_isParty 29 = .ok (.goto 4, 3) := by decide +kernel
theorem dX9_isParty_32 : decode cX9_isParty 32 = .ok (.iconst 0, 1) := by decide +kernel
theorem dX9_isParty_33 : decode cX9_isParty 33 = .ok (.ireturn, 1) := by decide +kernel
theorem dX9_why_0 : decode cX9_why 0 = .ok (.aload_n 0, 1) := by decide +kernel
theorem dX9_why_1 : decode cX9_why 1 = .ok (.iload_n 1, 1) := by decide +kernel
theorem dX9_why_2 : decode cX9_why 2 = .ok (.iload_n 3, 1) := by decide +kernel
theorem dX9_why_3 : decode cX9_why 3 = .ok (.iload 4, 2) := by decide +kernel
theorem dX9_why_5 : decode cX9_why 5 = .ok (.invokevirtual 175, 3) := by decide +kernel
theorem dX9_why_8 : decode cX9_why 8 = .ok (.ifCond .eq 11, 3) := by decide +kernel
theorem dX9_why_11 : decode cX9_why 11 = .ok (.iload_n 1, 1) := by decide +kernel
theorem dX9_why_12 : decode cX9_why 12 = .ok (.iload_n 2, 1) := by decide +kernel
theorem dX9_why_13 : decode cX9_why 13 = .ok (.invokestatic 179, 3) := by decide +kernel
theorem dX9_why_16 : decode cX9_why 16 = .ok (.ifCond .ne 5, 3) := by decide +kernel
theorem dX9_why_19 : decode cX9_why 19 = .ok (.iconst 1, 1) := by decide +kernel
theorem dX9_why_20 : decode cX9_why 20 = .ok (.ireturn, 1) := by decide +kernel
theorem dX9_why_21 : decode cX9_why 21 = .ok (.aload_n 0, 1) := by decide +kernel
theorem dX9_why_22 : decode cX9_why 22 = .ok (.iload_n 1, 1) := by decide +kernel
theorem dX9_why_23 : decode cX9_why 23 = .ok (.iload_n 3, 1) := by decide +kernel
theorem dX9_why_24 : decode cX9_why 24 = .ok (.iload 4, 2) := by decide +kernel
theorem dX9_why_26 : decode cX9_why 26 = .ok (.invokevirtual 182, 3) := by decide +kernel
theorem dX9_why_29 : decode cX9_why 29 = .ok (.aload_n 0, 1) := by decide +kernel
theorem dX9_why_30 : decode cX9_why 30 = .ok (.getfield 97, 3) := by decide +kernel
theorem dX9_why_33 : decode cX9_why 33 = .ok (.iload 4, 2) := by decide +kernel
theorem dX9_why_35 : decode cX9_why 35 = .ok (.laload, 1) := by decide +kernel
theorem dX9_why_36 : decode cX9_why 36 = .ok (.ldc2_w 169, 3) := by decide +kernel
theorem dX9_why_39 : decode cX9_why 39 = .ok (.lcmp, 1) := by decide +kernel
theorem dX9_why_40 : decode cX9_why 40 = .ok (.ifCond .ne 5, 3) := by decide +kernel
theorem dX9_why_43 : decode cX9_why 43 = .ok (.iconst 2, 1) := by decide +kernel
theorem dX9_why_44 : decode cX9_why 44 = .ok (.ireturn, 1) := by decide +kernel
theorem dX9_why_45 : decode cX9_why 45 = .ok (.iload_n 3, 1) := by decide +kernel
theorem dX9_why_46 : decode cX9_why 46 = .ok (.istore 6, 2) := by decide +kernel
theorem dX9_why_48 : decode cX9_why 48 = .ok (.iload 6, 2) := by decide +kernel
theorem dX9_why_50 : decode cX9_why 50 = .ok (.iload 4, 2) := by decide +kernel
theorem dX9_why_52 : decode cX9_why 52 = .ok (.if_icmp .ge 27, 3) := by decide +kernel
theorem dX9_why_55 : decode cX9_why 55 = .ok (.aload_n 0, 1) := by decide +kernel
theorem dX9_why_56 : decode cX9_why 56 = .ok (.iload 6, 2) := by decide +kernel
theorem dX9_why_58 : decode cX9_why 58 = .ok (.iload_n 1, 1) := by decide +kernel
theorem dX9_why_59 : decode cX9_why 59 = .ok (.iload 5, 2) := by decide +kernel
theorem dX9_why_61 : decode cX9_why 61 = .ok (.invokevirtual 186, 3) := by decide +kernel
theorem dX9_why_64 : decode cX9_why 64 = .ok (.aload_n 0, 1) := by decide +kernel
theorem dX9_why_65 : decode cX9_why 65 = .ok (.getfield 190, 3) := by decide +kernel
theorem dX9_why_68 : decode cX9_why 68 = .ok (.if_icmp .le 5, 3) := by decide +kernel
theorem dX9_why_71 : decode cX9_why 71 = .ok (.iconst 3, 1) := by decide +kernel
theorem dX9_why_72 : decode cX9_why 72 = .ok (.ireturn, 1) := by decide +kernel
theorem dX9_why_73 : decode cX9_why 73 = .ok (.iinc 6 1, 3) := by decide +kernel
theorem dX9_why_76 : decode cX9_why 76 = .ok (.goto (-28), 3) := by decide +kernel
theorem dX9_why_79 : decode cX9_why 79 = .ok (.iconst 0, 1) := by decide +kernel
theorem dX9_why_80 : decode cX9_why 80 = .ok (.ireturn, 1) := by decide +kernel
theorem dX9_can_0 : decode cX9_can 0 = .ok (.aload_n 0, 1) := by decide +kernel
theorem dX9_can_1 : decode cX9_can 1 = .ok (.iconst 0, 1) := by decide +kernel
theorem dX9_can_2 : decode cX9_can 2 = .ok (.putfield 1, 3) := by decide +kernel
theorem dX9_can_5 : decode cX9_can 5 = .ok (.aload_n 0, 1) := by decide +kernel
theorem dX9_can_6 : decode cX9_can 6 = .ok (.iload_n 1, 1) := by decide +kernel
theorem dX9_can_7 : decode cX9_can 7 = .ok (.iload_n 2, 1) := by decide +kernel
theorem dX9_can_8 : decode cX9_can 8 = .ok (.iload_n 3, 1) := by decide +kernel
theorem dX9_can_9 : decode cX9_can 9 = .ok (.iload 4, 2) := by decide +kernel
theorem dX9_can_11 : decode cX9_can 11 = .ok (.iconst (-1), 1) := by decide +kernel
theorem dX9_can_12 : decode cX9_can 12 = .ok (.invokevirtual 193, 3) := by decide +kernel
theorem dX9_can_15 : decode cX9_can 15 = .ok (.istore 5, 2) := by decide +kernel
theorem dX9_can_17 : decode cX9_can 17 = .ok (.iload 5, 2) := by decide +kernel
theorem dX9_can_19 : decode cX9_can 19 = .ok (.ifCond .le 8, 3) := by decide +kernel
theorem dX9_can_22 : decode cX9_can 22 = .ok (.iload 5, 2) := by decide +kernel
theorem dX9_can_24 : decode cX9_can 24 = .ok (.goto 17, 3) := by decide +kernel
theorem dX9_can_27 : decode cX9_can 27 = .ok (.aload_n 0, 1) := by decide +kernel
theorem dX9_can_28 : decode cX9_can 28 = .ok (.getfield 117, 3) := by decide +kernel
theorem dX9_can_31 : decode cX9_can 31 = .ok (.bipush 40, 2) := by decide +kernel
theorem dX9_can_33 : decode cX9_can 33 = .ok (.if_icmp .ne 7, 3) := by decide +kernel
theorem dX9_can_36 : decode cX9_can 36 = .ok (.iconst 4, 1) := by decide +kernel
theorem dX9_can_37 : decode cX9_can 37 = .ok (.goto 4, 3) := by decide +kernel
theorem dX9_can_40 : decode cX9_can 40 = .ok (.iconst 0, 1) := by decide +kernel
theorem dX9_can_41 : decode cX9_can 41 = .ok (.ireturn, 1) := by decide +kernel
theorem dX9_promise_0 : decode cX9_promise 0 = .ok (.aload_n 0, 1) := by decide +kernel
theorem dX9_promise_1 : decode cX9_promise 1 = .ok (.iload_n 1, 1) := by decide +kernel
theorem dX9_promise_2 : decode cX9_promise 2 = .ok (.iload_n 2, 1) := by decide +kernel
theorem dX9_promise_3 : decode cX9_promise 3 = .ok (.iload_n 3, 1) := by decide +kernel
theorem dX9_promise_4 : decode cX9_promise 4 = .ok (.iload 4, 2) := by decide +kernel
theorem dX9_promise_6 : decode cX9_promise 6 = .ok (.invokevirtual 197, 3) := by decide +kernel
theorem dX9_promise_9 : decode cX9_promise 9 = .ok (.istore 6, 2) := by decide +kernel
theorem dX9_promise_11 : decode cX9_promise 11 = .ok (.iload 6, 2) := by decide +kernel
theorem dX9_promise_13 : decode cX9_promise 13 = .ok (.ifCond .ne 21, 3) := by decide +kernel
theorem dX9_promise_16 : decode cX9_promise 16 = .ok (.iload 5, 2) := by decide +kernel
theorem dX9_promise_18 : decode cX9_promise 18 = .ok (.aload_n 0, 1) := by decide +kernel
theorem dX9_promise_19 : decode cX9_promise 19 = .ok (.getfield 158, 3) := by decide +kernel
theorem dX9_promise_22 : decode cX9_promise 22 = .ok (.if_icmp .ge 12, 3) := by decide +kernel
theorem dX9_promise_25 : decode cX9_promise 25 = .ok (.iload 5, 2) := by decide +kernel
theorem dX9_promise_27 : decode cX9_promise 27 = .ok (.iconst (-1), 1) := by decide +kernel
theorem dX9_promise_28 : decode cX9_promise 28 = .ok (.if_icmp .eq 6, 3) := by decide +kernel
theorem dX9_promise_31 : decode cX9_promise 31 = .ok (.iconst 5, 1) := by decide +kernel
theorem dX9_promise_32 : decode cX9_promise 32 = .ok (.istore 6, 2) := by decide +kernel
theorem dX9_promise_34 : decode cX9_promise 34 = .ok (.iload 6, 2) := by decide +kernel
theorem dX9_promise_36 : decode cX9_promise 36 = .ok (.ifCond .le 8, 3) := by decide +kernel
theorem dX9_promise_39 : decode cX9_promise 39 = .ok (.iconst (-1), 1) := by decide +kernel
theorem dX9_promise_40 : decode cX9_promise 40 = .ok (.iload 6, 2) := by decide +kernel
theorem dX9_promise_42 : decode cX9_promise 42 = .ok (.isub, 1) := by decide +kernel
theorem dX9_promise_43 : decode cX9_promise 43 = .ok (.ireturn, 1) := by decide +kernel
theorem dX9_promise_44 : decode cX9_promise 44 = .ok (.aload_n 0, 1) := by decide +kernel
theorem dX9_promise_45 : decode cX9_promise 45 = .ok (.getfield 117, 3) := by decide +kernel
theorem dX9_promise_48 : decode cX9_promise 48 = .ok (.istore 7, 2) := by decide +kernel
theorem dX9_promise_50 : decode cX9_promise 50 = .ok (.aload_n 0, 1) := by decide +kernel
theorem dX9_promise_51 : decode cX9_promise 51 = .ok (.dup, 1) := by decide +kernel
theorem dX9_promise_52 : decode cX9_promise 52 = .ok (.getfield 117, 3) := by decide +kernel
theorem dX9_promise_55 : decode cX9_promise 55 = .ok (.iconst 1, 1) := by decide +kernel
theorem dX9_promise_56 : decode cX9_promise 56 = .ok (.iadd, 1) := by decide +kernel
theorem dX9_promise_57 : decode cX9_promise 57 = .ok (.putfield 117, 3) := by decide +kernel
theorem dX9_promise_60 : decode cX9_promise 60 = .ok (.aload_n 0, 1) := by decide +kernel
theorem dX9_promise_61 : decode cX9_promise 61 = .ok (.getfield 37, 3) := by decide +kernel
theorem dX9_promise_64 : decode cX9_promise 64 = .ok (.iload 7, 2) := by decide +kernel
theorem dX9_promise_66 : decode cX9_promise 66 = .ok (.iload 5, 2) := by decide +kernel
theorem dX9_promise_68 : decode cX9_promise 68 = .ok (.iconst (-1), 1) := by decide +kernel
theorem dX9_promise_69 : decode cX9_promise 69 = .ok (.if_icmp .ne 7, 3) := by decide +kernel
theorem dX9_promise_72 : decode cX9_promise 72 = .ok (.iconst 1, 1) := by decide +kernel
theorem dX9_promise_73 : decode cX9_promise 73 = .ok (.goto 4, 3) := by decide +kernel
theorem dX9_promise_76 : decode cX9_promise 76 = .ok (.iconst 0, 1) := by decide +kernel
theorem dX9_promise_77 : decode cX9_promise 77 = .ok (.iastore, 1) := by decide +kernel
theorem dX9_promise_78 : decode cX9_promise 78 = .ok (.aload_n 0, 1) := by decide +kernel
theorem dX9_promise_79 : decode cX9_promise 79 = .ok (.getfield 40, 3) := by decide +kernel
theorem dX9_promise_82 : decode cX9_promise 82 = .ok (.iload 7, 2) := by decide +kernel
theorem dX9_promise_84 : decode cX9_promise 84 = .ok (.iload_n 1, 1) := by decide +kernel
theorem dX9_promise_85 : decode cX9_promise 85 = .ok (.iastore, 1) := by decide +kernel
theorem dX9_promise_86 : decode cX9_promise 86 = .ok (.aload_n 0, 1) := by decide +kernel
theorem dX9_promise_87 : decode cX9_promise 87 = .ok (.getfield 43, 3) := by decide +kernel
theorem dX9_promise_90 : decode cX9_promise 90 = .ok (.iload 7, 2) := by decide +kernel
theorem dX9_promise_92 : decode cX9_promise 92 = .ok (.iload_n 2, 1) := by decide +kernel
theorem dX9_promise_93 : decode cX9_promise 93 = .ok (.iastore, 1) := by decide +kernel
theorem dX9_promise_94 : decode cX9_promise 94 = .ok (.aload_n 0, 1) := by decide +kernel
theorem dX9_promise_95 : decode cX9_promise 95 = .ok (.getfield 46, 3) := by decide +kernel
theorem dX9_promise_98 : decode cX9_promise 98 = .ok (.iload 7, 2) := by decide +kernel
theorem dX9_promise_100 : decode cX9_promise 100 = .ok (.iload_n 3, 1) := by decide +kernel
theorem dX9_promise_101 : decode cX9_promise 101 = .ok (.iastore, 1) := by decide +kernel
theorem dX9_promise_102 : decode cX9_promise 102 = .ok (.aload_n 0, 1) := by decide +kernel
theorem dX9_promise_103 : decode cX9_promise 103 = .ok (.getfield 49, 3) := by decide +kernel
theorem dX9_promise_106 : decode cX9_promise 106 = .ok (.iload 7, 2) := by decide +kernel
theorem dX9_promise_108 : decode cX9_promise 108 = .ok (.iload 4, 2) := by decide +kernel
theorem dX9_promise_110 : decode cX9_promise 110 = .ok (.iastore, 1) := by decide +kernel
theorem dX9_promise_111 : decode cX9_promise 111 = .ok (.aload_n 0, 1) := by decide +kernel
theorem dX9_promise_112 : decode cX9_promise 112 = .ok (.getfield 52, 3) := by decide +kernel
theorem dX9_promise_115 : decode cX9_promise 115 = .ok (.iload 7, 2) := by decide +kernel
theorem dX9_promise_117 : decode cX9_promise 117 = .ok (.iload 5, 2) := by decide +kernel
theorem dX9_promise_119 : decode cX9_promise 119 = .ok (.iastore, 1) := by decide +kernel
theorem dX9_promise_120 : decode cX9_promise 120 = .ok (.aload_n 0, 1) := by decide +kernel
theorem dX9_promise_121 : decode cX9_promise 121 = .ok (.getfield 61, 3) := by decide +kernel
theorem dX9_promise_124 : decode cX9_promise 124 = .ok (.iload 7, 2) := by decide +kernel
theorem dX9_promise_126 : decode cX9_promise 126 = .ok (.aload_n 0, 1) := by decide +kernel
theorem dX9_promise_127 : decode cX9_promise 127 = .ok (.getfield 97, 3) := by decide +kernel
theorem dX9_promise_130 : decode cX9_promise 130 = .ok (.iload 4, 2) := by decide +kernel
theorem dX9_promise_132 : decode cX9_promise 132 = .ok (.laload, 1) := by decide +kernel
theorem dX9_promise_133 : decode cX9_promise 133 = .ok (.lastore, 1) := by decide +kernel
theorem dX9_promise_134 : decode cX9_promise 134 = .ok (.aload_n 0, 1) := by decide +kernel
theorem dX9_promise_135 : decode cX9_promise 135 = .ok (.getfield 55, 3) := by decide +kernel
theorem dX9_promise_138 : decode cX9_promise 138 = .ok (.iload 7, 2) := by decide +kernel
theorem dX9_promise_140 : decode cX9_promise 140 = .ok (.iconst 0, 1) := by decide +kernel
theorem dX9_promise_141 : decode cX9_promise 141 = .ok (.iastore, 1) := by decide +kernel
theorem dX9_promise_142 : decode cX9_promise 142 = .ok (.aload_n 0, 1) := by decide +kernel
theorem dX9_promise_143 : decode cX9_promise 143 = .ok (.getfield 58, 3) := by decide +kernel
theorem dX9_promise_146 : decode cX9_promise 146 = .ok (.iload 7, 2) := by decide +kernel
theorem dX9_promise_148 : decode cX9_promise 148 = .ok (.iconst 0, 1) := by decide +kernel
theorem dX9_promise_149 : decode cX9_promise 149 = .ok (.iastore, 1) := by decide +kernel
theorem dX9_promise_150 : decode cX9_promise 150 = .ok (.iconst 0, 1) := by decide +kernel
theorem dX9_promise_151 : decode cX9_promise 151 = .ok (.istore 8, 2) := by decide +kernel
theorem dX9_promise_153 : decode cX9_promise 153 = .ok (.iload 8, 2) := by decide +kernel
theorem dX9_promise_155 : decode cX9_promise 155 = .ok (.bipush 60, 2) := by decide +kernel
theorem dX9_promise_157 : decode cX9_promise 157 = .ok (.if_icmp .ge 23, 3) := by decide +kernel
theorem dX9_promise_160 : decode cX9_promise 160 = .ok (.aload_n 0, 1) := by decide +kernel
theorem dX9_promise_161 : decode cX9_promise 161 = .ok (.getfield 64, 3) := by decide +kernel
theorem dX9_promise_164 : decode cX9_promise 164 = .ok (.bipush 60, 2) := by decide +kernel
theorem dX9_promise_166 : decode cX9_promise 166 = .ok (.iload 7, 2) := by decide +kernel
theorem dX9_promise_168 : decode cX9_promise 168 = .ok (.imul, 1) := by decide +kernel
theorem dX9_promise_169 : decode cX9_promise 169 = .ok (.iload 8, 2) := by decide +kernel
theorem dX9_promise_171 : decode cX9_promise 171 = .ok (.iadd, 1) := by decide +kernel
theorem dX9_promise_172 : decode cX9_promise 172 = .ok (.iconst (-1), 1) := by decide +kernel
theorem dX9_promise_173 : decode cX9_promise 173 = .ok (.iastore, 1) := by decide +kernel
theorem dX9_promise_174 : decode cX9_promise 174 = .ok (.iinc 8 1, 3) := by decide +kernel
theorem dX9_promise_177 : decode cX9_promise 177 = .ok (.goto (-24), 3) := by decide +kernel
theorem dX9_promise_180 : decode cX9_promise 180 = .ok (.iload 7, 2) := by decide +kernel
theorem dX9_promise_182 : decode cX9_promise 182 = .ok (.ireturn, 1) := by decide +kernel
theorem dX9_isMade_0 : decode cX9_isMade 0 = .ok (.aload_n 0, 1) := by decide +kernel
theorem dX9_isMade_1 : decode cX9_isMade 1 = .ok (.iload_n 1, 1) := by decide +kernel
theorem dX9_isMade_2 : decode cX9_isMade 2 = .ok (.invokevirtual 201, 3) := by decide +kernel
theorem dX9_isMade_5 : decode cX9_isMade 5 = .ok (.ifCond .eq 17, 3) := by decide +kernel
theorem dX9_isMade_8 : decode cX9_isMade 8 = .ok (.aload_n 0, 1) := by decide +kernel
theorem dX9_isMade_9 : decode cX9_isMade 9 = .ok (.getfield 37, 3) := by decide +kernel
theorem dX9_isMade_12 : decode cX9_isMade 12 = .ok (.iload_n 1, 1) := by decide +kernel
theorem dX9_isMade_13 : decode cX9_isMade 13 = .ok (.iaload, 1) := by decide +kernel
theorem dX9_isMade_14 : decode cX9_isMade 14 = .ok (.iconst 1, 1) := by decide +kernel
theorem dX9_isMade_15 : decode cX9_isMade 15 = .ok (.if_icmp .gt 7, 3) := by decide +kernel
theorem dX9_isMade_18 : decode cX9_isMade 18 = .ok (.iconst 1, 1) := by decide +kernel
theorem dX9_isMade_19 : decode cX9_isMade 19 = .ok (.goto 4, 3) := by decide +kernel
theorem dX9_isMade_22 : decode cX9_isMade 22 = .ok (.iconst 0, 1) := by decide +kernel
theorem dX9_isMade_23 : decode cX9_isMade 23 = .ok (.ireturn, 1) := by decide +kernel
theorem dX9_firm_0 : decode cX9_firm 0 = .ok (.aload_n 0, 1) := by decide +kernel
theorem dX9_firm_1 : decode cX9_firm 1 = .ok (.iconst 0, 1) := by decide +kernel
theorem dX9_firm_2 : decode cX9_firm 2 = .ok (.putfield 1, 3) := by decide +kernel
theorem dX9_firm_5 : decode cX9_firm 5 = .ok (.aload_n 0, 1) := by decide +kernel
theorem dX9_firm_6 : decode cX9_firm 6 = .ok (.iload_n 1, 1) := by decide +kernel
theorem dX9_firm_7 : decode cX9_firm 7 = .ok (.invokevirtual 201, 3) := by decide +kernel
theorem dX9_firm_10 : decode cX9_firm 10 = .ok (.ifCond .eq 12, 3) := by decide +kernel
theorem dX9_firm_13 : decode cX9_firm 13 = .ok (.aload_n 0, 1) := by decide +kernel
theorem dX9_firm_14 : decode cX9_firm 14 = .ok (.getfield 37, 3) := by decide +kernel
theorem dX9_firm_17 : decode cX9_firm 17 = .ok (.iload_n 1, 1) := by decide +kernel
theorem dX9_firm_18 : decode cX9_firm 18 = .ok (.iaload, 1) := by decide +kernel
theorem dX9_firm_19 : decode cX9_firm 19 = .ok (.ifCond .eq 5, 3) := by decide +kernel
theorem dX9_firm_22 : decode cX9_firm 22 = .ok (.iconst 0, 1) := by decide +kernel
theorem dX9_firm_23 : decode cX9_firm 23 = .ok (.ireturn, 1) := by decide +kernel
theorem dX9_firm_24 : decode cX9_firm 24 = .ok (.aload_n 0, 1) := by decide +kernel
theorem dX9_firm_25 : decode cX9_firm 25 = .ok (.getfield 37, 3) := by decide +kernel
theorem dX9_firm_28 : decode cX9_firm 28 = .ok (.iload_n 1, 1) := by decide +kernel
theorem dX9_firm_29 : decode cX9_firm 29 = .ok (.iconst 1, 1) := by decide +kernel
theorem dX9_firm_30 : decode cX9_firm 30 = .ok (.iastore, 1) := by decide +kernel
theorem dX9_firm_31 : decode cX9_firm 31 = .ok (.iconst 1, 1) := by decide +kernel
theorem dX9_firm_32 : decode cX9_firm 32 = .ok (.ireturn, 1) := by decide +kernel
theorem dX9_cancel_0 : decode cX9_cancel 0 = .ok (.aload_n 0, 1) := by decide +kernel
theorem dX9_cancel_1 : decode cX9_cancel 1 = .ok (.iconst 0, 1) := by decide +kernel
theorem dX9_cancel_2 : decode cX9_cancel 2 = .ok (.putfield 1, 3) := by decide +kernel
theorem dX9_cancel_5 : decode cX9_cancel 5 = .ok (.aload_n 0, 1) := by decide +kernel
theorem dX9_cancel_6 : decode cX9_cancel 6 = .ok (.iload_n 1, 1) := by decide +kernel
theorem dX9_cancel_7 : decode cX9_cancel 7 = .ok (.invokevirtual 204, 3) := by decide +kernel
theorem dX9_cancel_10 : decode cX9_cancel 10 = .ok (.ifCond .ne 5, 3) := by decide +kernel
theorem dX9_cancel_13 : decode cX9_cancel 13 = .ok (.iconst 0, 1) := by decide +kernel
theorem dX9_cancel_14 : decode cX9_cancel 14 = .ok (.ireturn, 1) := by decide +kernel
theorem dX9_cancel_15 : decode cX9_cancel 15 = .ok (.aload_n 0, 1) := by decide +kernel
theorem dX9_cancel_16 : decode cX9_cancel 16 = .ok (.getfield 37, 3) := by decide +kernel
theorem dX9_cancel_19 : decode cX9_cancel 19 = .ok (.iload_n 1, 1) := by decide +kernel
theorem dX9_cancel_20 : decode cX9_cancel 20 = .ok (.iconst 4, 1) := by decide +kernel
theorem dX9_cancel_21 : decode cX9_cancel 21 = .ok (.iastore, 1) := by decide +kernel
theorem dX9_cancel_22 : decode cX9_cancel 22 = .ok (.iconst 1, 1) := by decide +kernel
theorem dX9_cancel_23 : decode cX9_cancel 23 = .ok (.ireturn, 1) := by decide +kernel
theorem dX9_change_0 : decode cX9_change 0 = .ok (.aload_n 0, 1) := by decide +kernel
theorem dX9_change_1 : decode cX9_change 1 = .ok (.iconst 0, 1) := by decide +kernel
theorem dX9_change_2 : decode cX9_change 2 = .ok (.putfield 1, 3) := by decide +kernel
theorem dX9_change_5 : decode cX9_change 5 = .ok (.aload_n 0, 1) := by decide +kernel
theorem dX9_change_6 : decode cX9_change 6 = .ok (.iload_n 1, 1) := by decide +kernel
theorem dX9_change_7 : decode cX9_change 7 = .ok (.invokevirtual 204, 3) := by decide +kernel
theorem dX9_change_10 : decode cX9_change 10 = .ok (.ifCond .ne 6, 3) := by decide +kernel
theorem dX9_change_13 : decode cX9_change 13 = .ok (.bipush 6, 2) := by decide +kernel
theorem dX9_change_15 : decode cX9_change 15 = .ok (.ireturn, 1) := by decide +kernel
theorem dX9_change_16 : decode cX9_change 16 = .ok (.aload_n 0, 1) := by decide +kernel
theorem dX9_change_17 : decode cX9_change 17 = .ok (.aload_n 0, 1) := by decide +kernel
theorem dX9_change_18 : decode cX9_change 18 = .ok (.getfield 40, 3) := by decide +kernel
theorem dX9_change_21 : decode cX9_change 21 = .ok (.iload_n 1, 1) := by decide +kernel
theorem dX9_change_22 : decode cX9_change 22 = .ok (.iaload, 1) := by decide +kernel
theorem dX9_change_23 : decode cX9_change 23 = .ok (.aload_n 0, 1) := by decide +kernel
theorem dX9_change_24 : decode cX9_change 24 = .ok (.getfield 43, 3) := by decide +kernel
theorem dX9_change_27 : decode cX9_change 27 = .ok (.iload_n 1, 1) := by decide +kernel
theorem dX9_change_28 : decode cX9_change 28 = .ok (.iaload, 1) := by decide +kernel
theorem dX9_change_29 : decode cX9_change 29 = .ok (.iload_n 2, 1) := by decide +kernel
theorem dX9_change_30 : decode cX9_change 30 = .ok (.iload_n 3, 1) := by decide +kernel
theorem dX9_change_31 : decode cX9_change 31 = .ok (.iload_n 1, 1) := by decide +kernel
theorem dX9_change_32 : decode cX9_change 32 = .ok (.invokevirtual 193, 3) := by decide +kernel
theorem dX9_change_35 : decode cX9_change 35 = .ok (.istore 4, 2) := by decide +kernel
theorem dX9_change_37 : decode cX9_change 37 = .ok (.iload 4, 2) := by decide +kernel
theorem dX9_change_39 : decode cX9_change 39 = .ok (.ifCond .le 6, 3) := by decide +kernel
theorem dX9_change_42 : decode cX9_change 42 = .ok (.iload 4, 2) := by decide +kernel
theorem dX9_change_44 : decode cX9_change 44 = .ok (.ireturn, 1) := by decide +kernel
theorem dX9_change_45 : decode cX9_change 45 = .ok (.aload_n 0, 1) := by decide +kernel
theorem dX9_change_46 : decode cX9_change 46 = .ok (.getfield 46, 3) := by decide +kernel
theorem dX9_change_49 : decode cX9_change 49 = .ok (.iload_n 1, 1) := by decide +kernel
theorem dX9_change_50 : decode cX9_change 50 = .ok (.iload_n 2, 1) := by decide +kernel
theorem dX9_change_51 : decode cX9_change 51 = .ok (.iastore, 1) := by decide +kernel
theorem dX9_change_52 : decode cX9_change 52 = .ok (.aload_n 0, 1) := by decide +kernel
theorem dX9_change_53 : decode cX9_change 53 = .ok (.getfield 49, 3) := by decide +kernel
theorem dX9_change_56 : decode cX9_change 56 = .ok (.iload_n 1, 1) := by decide +kernel
theorem dX9_change_57 : decode cX9_change 57 = .ok (.iload_n 3, 1) := by decide +kernel
theorem dX9_change_58 : decode cX9_change 58 = .ok (.iastore, 1) := by decide +kernel
theorem dX9_change_59 : decode cX9_change 59 = .ok (.aload_n 0, 1) := by decide +kernel
theorem dX9_change_60 : decode cX9_change 60 = .ok (.getfield 61, 3) := by decide +kernel
theorem dX9_change_63 : decode cX9_change 63 = .ok (.iload_n 1, 1) := by decide +kernel
theorem dX9_change_64 : decode cX9_change 64 = .ok (.aload_n 0, 1) := by decide +kernel
theorem dX9_change_65 : decode cX9_change 65 = .ok (.getfield 97, 3) := by decide +kernel
theorem dX9_change_68 : decode cX9_change 68 = .ok (.iload_n 3, 1) := by decide +kernel
theorem dX9_change_69 : decode cX9_change 69 = .ok (.laload, 1) := by decide +kernel
theorem dX9_change_70 : decode cX9_change 70 = .ok (.lastore, 1) := by decide +kernel
theorem dX9_change_71 : decode cX9_change 71 = .ok (.iconst 0, 1) := by decide +kernel
theorem dX9_change_72 : decode cX9_change 72 = .ok (.ireturn, 1) := by decide +kernel
theorem dX9_come_0 : decode cX9_come 0 = .ok (.aload_n 0, 1) := by decide +kernel
theorem dX9_come_1 : decode cX9_come 1 = .ok (.iconst 0, 1) := by decide +kernel
theorem dX9_come_2 : decode cX9_come 2 = .ok (.putfield 1, 3) := by decide +kernel
theorem dX9_come_5 : decode cX9_come 5 = .ok (.aload_n 0, 1) := by decide +kernel
theorem dX9_come_6 : decode cX9_come 6 = .ok (.iload_n 1, 1) := by decide +kernel
theorem dX9_come_7 : decode cX9_come 7 = .ok (.invokevirtual 204, 3) := by decide +kernel
theorem dX9_come_10 : decode cX9_come 10 = .ok (.ifCond .eq 16, 3) := by decide +kernel
theorem dX9_come_13 : decode cX9_come 13 = .ok (.aload_n 0, 1) := by decide +kernel
theorem dX9_come_14 : decode cX9_come 14 = .ok (.getfield 46, 3) := by decide +kernel
theorem dX9_come_17 : decode cX9_come 17 = .ok (.iload_n 1, 1) := by decide +kernel
theorem dX9_come_18 : decode cX9_come 18 = .ok (.iaload, 1) := by decide +kernel
theorem dX9_come_19 : decode cX9_come 19 = .ok (.aload_n 0, 1) := by decide +kernel
theorem dX9_come_20 : decode cX9_come 20 = .ok (.getfield 158, 3) := by decide +kernel
theorem dX9_come_23 : decode cX9_come 23 = .ok (.if_icmp .eq 5, 3) := by decide +kernel
theorem dX9_come_26 : decode cX9_come 26 = .ok (.iconst 0, 1) := by decide +kernel
theorem dX9_come_27 : decode cX9_come 27 = .ok (.ireturn, 1) := by decide +kernel
theorem dX9_come_28 : decode cX9_come 28 = .ok (.aload_n 0, 1) := by decide +kernel
theorem dX9_come_29 : decode cX9_come 29 = .ok (.getfield 37, 3) := by decide +kernel
theorem dX9_come_32 : decode cX9_come 32 = .ok (.iload_n 1, 1) := by decide +kernel
theorem dX9_come_33 : decode cX9_come 33 = .ok (.iconst 2, 1) := by decide +kernel
theorem dX9_come_34 : decode cX9_come 34 = .ok (.iastore, 1) := by decide +kernel
theorem dX9_come_35 : decode cX9_come 35 = .ok (.iconst 1, 1) := by decide +kernel
theorem dX9_come_36 : decode cX9_come 36 = .ok (.ireturn, 1) := by decide +kernel
theorem dX9_hasMoved_0 : decode cX9_hasMoved 0 = .ok (.aload_n 0, 1) := by decide +kernel
theorem dX9_hasMoved_1 : decode cX9_hasMoved 1 = .ok (.getfield 64, 3) := by decide +kernel
theorem dX9_hasMoved_4 : decode cX9_hasMoved 4 = .ok (.bipush 60, 2) := by decide +kernel
theorem dX9_hasMoved_6 : decode cX9_hasMoved 6 = .ok (.iload_n 1, 1) := by decide +kernel
theorem dX9_hasMoved_7 : decode cX9_hasMoved 7 = .ok (.imul, 1) := by decide +kernel
theorem dX9_hasMoved_8 : decode cX9_hasMoved 8 = .ok (.iload_n 2, 1) := by decide +kernel
theorem dX9_hasMoved_9 : decode cX9_hasMoved 9 = .ok (.iadd, 1) := by decide +kernel
theorem dX9_hasMoved_10 : decode cX9_hasMoved 10 = .ok (.iaload, 1) := by decide +kernel
theorem dX9_hasMoved_11 : decode cX9_hasMoved 11 = .ok (.istore_n 3, 1) := by decide +kernel
theorem dX9_hasMoved_12 : decode cX9_hasMoved 12 = .ok (.iload_n 2, 1) := by decide +kernel
theorem dX9_hasMoved_13 : decode cX9_hasMoved 13 = .ok (.ifCond .le 46, 3) := by decide +kernel
theorem dX9_hasMoved_16 : decode cX9_hasMoved 16 = .ok (.iload_n 3, 1) := by decide +kernel
theorem dX9_hasMoved_17 : decode cX9_hasMoved 17 = .ok (.iconst (-1), 1) := by decide +kernel
theorem dX9_hasMoved_18 : decode cX9_hasMoved 18 = .ok (.if_icmp .eq 41, 3) := by decide +kernel
theorem dX9_hasMoved_21 : decode cX9_hasMoved 21 = .ok (.aload_n 0, 1) := by decide +kernel
theorem dX9_hasMoved_22 : decode cX9_hasMoved 22 = .ok (.getfield 64, 3) := by decide +kernel
theorem dX9_hasMoved_25 : decode cX9_hasMoved 25 = .ok (.bipush 60, 2) := by decide +kernel
theorem dX9_hasMoved_27 : decode cX9_hasMoved 27 = .ok (.iload_n 1, 1) := by decide +kernel
theorem dX9_hasMoved_28 : decode cX9_hasMoved 28 = .ok (.imul, 1) := by decide +kernel
theorem dX9_hasMoved_29 : decode cX9_hasMoved 29 = .ok (.iload_n 2, 1) := by decide +kernel
theorem dX9_hasMoved_30 : decode cX9_hasMoved 30 = .ok (.iadd, 1) := by decide +kernel
theorem dX9_hasMoved_31 : decode cX9_hasMoved 31 = .ok (.iconst 1, 1) := by decide +kernel
theorem dX9_hasMoved_32 : decode cX9_hasMoved 32 = .ok (.isub, 1) := by decide +kernel
theorem dX9_hasMoved_33 : decode cX9_hasMoved 33 = .ok (.iaload, 1) := by decide +kernel
theorem dX9_hasMoved_34 : decode cX9_hasMoved 34 = .ok (.iconst (-1), 1) := by decide +kernel
theorem dX9_hasMoved_35 : decode cX9_hasMoved 35 = .ok (.if_icmp .eq 24, 3) := by decide +kernel
theorem dX9_hasMoved_38 : decode cX9_hasMoved 38 = .ok (.aload_n 0, 1) := by decide +kernel
theorem dX9_hasMoved_39 : decode cX9_hasMoved 39 = .ok (.getfield 64, 3) := by decide +kernel
theorem dX9_hasMoved_42 : decode cX9_hasMoved 42 = .ok (.bipush 60, 2) := by decide +kernel
theorem dX9_hasMoved_44 : decode cX9_hasMoved 44 = .ok (.iload_n 1, 1) := by decide +kernel
theorem dX9_hasMoved_45 : decode cX9_hasMoved 45 = .ok (.imul, 1) := by decide +kernel
theorem dX9_hasMoved_46 : decode cX9_hasMoved 46 = .ok (.iload_n 2, 1) := by decide +kernel
theorem dX9_hasMoved_47 : decode cX9_hasMoved 47 = .ok (.iadd, 1) := by decide +kernel
theorem dX9_hasMoved_48 : decode cX9_hasMoved 48 = .ok (.iconst 1, 1) := by decide +kernel
theorem dX9_hasMoved_49 : decode cX9_hasMoved 49 = .ok (.isub, 1) := by decide +kernel
theorem dX9_hasMoved_50 : decode cX9_hasMoved 50 = .ok (.iaload, 1) := by decide +kernel
theorem dX9_hasMoved_51 : decode cX9_hasMoved 51 = .ok (.iload_n 3, 1) := by decide +kernel
theorem dX9_hasMoved_52 : decode cX9_hasMoved 52 = .ok (.if_icmp .eq 7, 3) := by decide +kernel
theorem dX9_hasMoved_55 : decode cX9_hasMoved 55 = .ok (.iconst 1, 1) := by decide +kernel
theorem dX9_hasMoved_56 : decode cX9_hasMoved 56 = .ok (.goto 4, 3) := by decide +kernel
theorem dX9_hasMoved_59 : decode cX9_hasMoved 59 = .ok (.iconst 0, 1) := by decide +kernel
theorem dX9_hasMoved_60 : decode cX9_hasMoved 60 = .ok (.ireturn, 1) := by decide +kernel
theorem dX9_next_0 : decode cX9_next 0 = .ok (.aload_n 0, 1) := by decide +kernel
theorem dX9_next_1 : decode cX9_next 1 = .ok (.iconst 0, 1) := by decide +kernel
theorem dX9_next_2 : decode cX9_next 2 = .ok (.putfield 1, 3) := by decide +kernel
theorem dX9_next_5 : decode cX9_next 5 = .ok (.aload_n 0, 1) := by decide +kernel
theorem dX9_next_6 : decode cX9_next 6 = .ok (.getfield 158, 3) := by decide +kernel
theorem dX9_next_9 : decode cX9_next 9 = .ok (.bipush 59, 2) := by decide +kernel
theorem dX9_next_11 : decode cX9_next 11 = .ok (.if_icmp .ne 5, 3) := by decide +kernel
theorem dX9_next_14 : decode cX9_next 14 = .ok (.iconst (-1), 1) := by decide +kernel
theorem dX9_next_15 : decode cX9_next 15 = .ok (.ireturn, 1) := by decide +kernel
theorem dX9_next_16 : decode cX9_next 16 = .ok (.iconst 0, 1) := by decide +kernel
theorem dX9_next_17 : decode cX9_next 17 = .ok (.istore_n 1, 1) := by decide +kernel
theorem dX9_next_18 : decode cX9_next 18 = .ok (.iload_n 1, 1) := by decide +kernel
theorem dX9_next_19 : decode cX9_next 19 = .ok (.aload_n 0, 1) := by decide +kernel
theorem dX9_next_20 : decode cX9_next 20 = .ok (.getfield 117, 3) := by decide +kernel
theorem dX9_next_23 : decode cX9_next 23 = .ok (.if_icmp .ge 39, 3) := by decide +kernel
theorem dX9_next_26 : decode cX9_next 26 = .ok (.aload_n 0, 1) := by decide +kernel
theorem dX9_next_27 : decode cX9_next 27 = .ok (.getfield 37, 3) := by decide +kernel
theorem dX9_next_30 : decode cX9_next 30 = .ok (.iload_n 1, 1) := by decide +kernel
theorem dX9_next_31 : decode cX9_next 31 = .ok (.iaload, 1) := by decide +kernel
theorem dX9_next_32 : decode cX9_next 32 = .ok (.iconst 1, 1) := by decide +kernel
theorem dX9_next_33 : decode cX9_next 33 = .ok (.if_icmp .gt 23, 3) := by decide +kernel
theorem dX9_next_36 : decode cX9_next 36 = .ok (.aload_n 0, 1) := by decide +kernel
theorem dX9_next_37 : decode cX9_next 37 = .ok (.iload_n 1, 1) := by decide +kernel
theorem dX9_next_38 : decode cX9_next 38 = .ok (.aload_n 0, 1) := by decide +kernel
theorem dX9_next_39 : decode cX9_next 39 = .ok (.getfield 158, 3) := by decide +kernel
theorem dX9_next_42 : decode cX9_next 42 = .ok (.invokevirtual 144, 3) := by decide +kernel
theorem dX9_next_45 : decode cX9_next 45 = .ok (.ifCond .eq 11, 3) := by decide +kernel
theorem dX9_next_48 : decode cX9_next 48 = .ok (.aload_n 0, 1) := by decide +kernel
theorem dX9_next_49 : decode cX9_next 49 = .ok (.getfield 37, 3) := by decide +kernel
theorem dX9_next_52 : decode cX9_next 52 = .ok (.iload_n 1, 1) := by decide +kernel
theorem dX9_next_53 : decode cX9_next 53 = .ok (.bipush 6, 2) := by decide +kernel
theorem dX9_next_55 : decode cX9_next 55 = .ok (.iastore, 1) := by decide +kernel
theorem dX9_next_56 : decode cX9_next 56 = .ok (.iinc 1 1, 3) := by decide +kernel
theorem dX9_next_59 : decode cX9_next 59 = .ok (.goto (-41), 3) := by decide +kernel
theorem dX9_next_62 : decode cX9_next 62 = .ok (.aload_n 0, 1) := by decide +kernel
theorem dX9_next_63 : decode cX9_next 63 = .ok (.aload_n 0, 1) := by decide +kernel
theorem dX9_next_64 : decode cX9_next 64 = .ok (.getfield 158, 3) := by decide +kernel
theorem dX9_next_67 : decode cX9_next 67 = .ok (.invokevirtual 161, 3) := by decide +kernel
theorem dX9_next_70 : decode cX9_next 70 = .ok (.iconst 0, 1) := by decide +kernel
theorem dX9_next_71 : decode cX9_next 71 = .ok (.istore_n 1, 1) := by decide +kernel
theorem dX9_next_72 : decode cX9_next 72 = .ok (.iconst 0, 1) := by decide +kernel
theorem dX9_next_73 : decode cX9_next 73 = .ok (.istore_n 2, 1) := by decide +kernel
theorem dX9_next_74 : decode cX9_next 74 = .ok (.iload_n 2, 1) := by decide +kernel
theorem dX9_next_75 : decode cX9_next 75 = .ok (.aload_n 0, 1) := by decide +kernel
theorem dX9_next_76 : decode cX9_next 76 = .ok (.getfield 117, 3) := by decide +kernel
theorem dX9_next_79 : decode cX9_next 79 = .ok (.if_icmp .ge 89, 3) := by decide +kernel
theorem dX9_next_82 : decode cX9_next 82 = .ok (.aload_n 0, 1) := by decide +kernel
theorem dX9_next_83 : decode cX9_next 83 = .ok (.getfield 37, 3) := by decide +kernel
theorem dX9_next_86 : decode cX9_next 86 = .ok (.iload_n 2, 1) := by decide +kernel
theorem dX9_next_87 : decode cX9_next 87 = .ok (.iaload, 1) := by decide +kernel
theorem dX9_next_88 : decode cX9_next 88 = .ok (.iconst 2, 1) := by decide +kernel
theorem dX9_next_89 : decode cX9_next 89 = .ok (.if_icmp .ne 73, 3) := by decide +kernel
theorem dX9_next_92 : decode cX9_next 92 = .ok (.aload_n 0, 1) := by decide +kernel
theorem dX9_next_93 : decode cX9_next 93 = .ok (.iload_n 2, 1) := by decide +kernel
theorem dX9_next_94 : decode cX9_next 94 = .ok (.aload_n 0, 1) := by decide +kernel
theorem dX9_next_95 : decode cX9_next 95 = .ok (.getfield 158, 3) := by decide +kernel
theorem dX9_next_98 : decode cX9_next 98 = .ok (.invokevirtual 144, 3) := by decide +kernel
theorem dX9_next_101 : decode cX9_next 101 = .ok (.ifCond .ne 6, 3) := by decide +kernel
theorem dX9_next_104 : decode cX9_next 104 = .ok (.goto 58, 3) := by decide +kernel
theorem dX9_next_107 : decode cX9_next 107 = .ok (.aload_n 0, 1) := by decide +kernel
theorem dX9_next_108 : decode cX9_next 108 = .ok (.getfield 76, 3) := by decide +kernel
theorem dX9_next_111 : decode cX9_next 111 = .ok (.iload_n 2, 1) := by decide +kernel
theorem dX9_next_112 : decode cX9_next 112 = .ok (.baload, 1) := by decide +kernel
theorem dX9_next_113 : decode cX9_next 113 = .ok (.ifCond .eq 38, 3) := by decide +kernel
theorem dX9_next_116 : decode cX9_next 116 = .ok (.aload_n 0, 1) := by decide +kernel
theorem dX9_next_117 : decode cX9_next 117 = .ok (.getfield 55, 3) := by decide +kernel
theorem dX9_next_120 : decode cX9_next 120 = .ok (.iload_n 2, 1) := by decide +kernel
theorem dX9_next_121 : decode cX9_next 121 = .ok (.dup2, 1) := by decide +kernel
theorem dX9_next_122 : decode cX9_next 122 = .ok (.iaload, 1) := by decide +kernel
theorem dX9_next_123 : decode cX9_next 123 = .ok (.iconst 1, 1) := by decide +kernel
theorem dX9_next_124 : decode cX9_next 124 = .ok (.iadd, 1) := by decide +kernel
theorem dX9_next_125 : decode cX9_next 125 = .ok (.iastore, 1) := by decide +kernel
theorem dX9_next_126 : decode cX9_next 126 = .ok (.aload_n 0, 1) := by decide +kernel
theorem dX9_next_127 : decode cX9_next 127 = .ok (.iload_n 2, 1) := by decide +kernel
theorem dX9_next_128 : decode cX9_next 128 = .ok (.aload_n 0, 1) := by decide +kernel
theorem dX9_next_129 : decode cX9_next 129 = .ok (.getfield 158, 3) := by decide +kernel
theorem dX9_next_132 : decode cX9_next 132 = .ok (.invokevirtual 207, 3) := by decide +kernel
theorem dX9_next_135 : decode cX9_next 135 = .ok (.ifCond .eq 27, 3) := by decide +kernel
theorem dX9_next_138 : decode cX9_next 138 = .ok (.aload_n 0, 1) := by decide +kernel
theorem dX9_next_139 : decode cX9_next 139 = .ok (.getfield 58, 3) := by decide +kernel
theorem dX9_next_142 : decode cX9_next 142 = .ok (.iload_n 2, 1) := by decide +kernel
theorem dX9_next_143 : decode cX9_next 143 = .ok (.dup2, 1) := by decide +kernel
theorem dX9_next_144 : decode cX9_next 144 = .ok (.iaload, 1) := by decide +kernel
theorem dX9_next_145 : decode cX9_next 145 = .ok (.iconst 1, 1) := by decide +kernel
theorem dX9_next_146 : decode cX9_next 146 = .ok (.iadd, 1) := by decide +kernel
theorem dX9_next_147 : decode cX9_next 147 = .ok (.iastore, 1) := by decide +kernel
theorem dX9_next_148 : decode cX9_next 148 = .ok (.goto 14, 3) := by decide +kernel
theorem dX9_next_151 : decode cX9_next 151 = .ok (.aload_n 0, 1) := by decide +kernel
theorem dX9_next_152 : decode cX9_next 152 = .ok (.getfield 37, 3) := by decide +kernel
theorem dX9_next_155 : decode cX9_next 155 = .ok (.iload_n 2, 1) := by decide +kernel
theorem dX9_next_156 : decode cX9_next 156 = .ok (.bipush 7, 2) := by decide +kernel
theorem dX9_next_158 : decode cX9_next 158 = .ok (.iastore, 1) := by decide +kernel
theorem dX9_next_159 : decode cX9_next 159 = .ok (.iinc 1 1, 3) := by decide +kernel
theorem dX9_next_162 : decode cX9_next 162 = .ok (.iinc 2 1, 3) := by decide +kernel
theorem dX9_next_165 : decode cX9_next 165 = .ok (.goto (-91), 3) := by decide +kernel
theorem dX9_next_168 : decode cX9_next 168 = .ok (.aload_n 0, 1) := by decide +kernel
theorem dX9_next_169 : decode cX9_next 169 = .ok (.dup, 1) := by decide +kernel
theorem dX9_next_170 : decode cX9_next 170 = .ok (.getfield 158, 3) := by decide +kernel
theorem dX9_next_173 : decode cX9_next 173 = .ok (.iconst 1, 1) := by decide +kernel
theorem dX9_next_174 : decode cX9_next 174 = .ok (.iadd, 1) := by decide +kernel
theorem dX9_next_175 : decode cX9_next 175 = .ok (.putfield 158, 3) := by decide +kernel
theorem dX9_next_178 : decode cX9_next 178 = .ok (.iconst 0, 1) := by decide +kernel
theorem dX9_next_179 : decode cX9_next 179 = .ok (.istore_n 2, 1) := by decide +kernel
theorem dX9_next_180 : decode cX9_next 180 = .ok (.iload_n 2, 1) := by decide +kernel
theorem dX9_next_181 : decode cX9_next 181 = .ok (.aload_n 0, 1) := by decide +kernel
theorem dX9_next_182 : decode cX9_next 182 = .ok (.getfield 117, 3) := by decide +kernel
theorem dX9_next_185 : decode cX9_next 185 = .ok (.if_icmp .ge 68, 3) := by decide +kernel
theorem dX9_next_188 : decode cX9_next 188 = .ok (.aload_n 0, 1) := by decide +kernel
theorem dX9_next_189 : decode cX9_next 189 = .ok (.getfield 37, 3) := by decide +kernel
theorem dX9_next_192 : decode cX9_next 192 = .ok (.iload_n 2, 1) := by decide +kernel
theorem dX9_next_193 : decode cX9_next 193 = .ok (.iaload, 1) := by decide +kernel
theorem dX9_next_194 : decode cX9_next 194 = .ok (.iconst 2, 1) := by decide +kernel
theorem dX9_next_195 : decode cX9_next 195 = .ok (.if_icmp .ne 23, 3) := by decide +kernel
theorem dX9_next_198 : decode cX9_next 198 = .ok (.aload_n 0, 1) := by decide +kernel
theorem dX9_next_199 : decode cX9_next 199 = .ok (.getfield 49, 3) := by decide +kernel
theorem dX9_next_202 : decode cX9_next 202 = .ok (.iload_n 2, 1) := by decide +kernel
theorem dX9_next_203 : decode cX9_next 203 = .ok (.iaload, 1) := by decide +kernel
theorem dX9_next_204 : decode cX9_next 204 = .ok (.aload_n 0, 1) := by decide +kernel
theorem dX9_next_205 : decode cX9_next 205 = .ok (.getfield 158, 3) := by decide +kernel
theorem dX9_next_208 : decode cX9_next 208 = .ok (.if_icmp .ne 10, 3) := by decide +kernel
theorem dX9_next_211 : decode cX9_next 211 = .ok (.aload_n 0, 1) := by decide +kernel
theorem dX9_next_212 : decode cX9_next 212 = .ok (.getfield 37, 3) := by decide +kernel
theorem dX9_next_215 : decode cX9_next 215 = .ok (.iload_n 2, 1) := by decide +kernel
theorem dX9_next_216 : decode cX9_next 216 = .ok (.iconst 3, 1) := by decide +kernel
theorem dX9_next_217 : decode cX9_next 217 = .ok (.iastore, 1) := by decide +kernel
theorem dX9_next_218 : decode cX9_next 218 = .ok (.aload_n 0, 1) := by decide +kernel
theorem dX9_next_219 : decode cX9_next 219 = .ok (.getfield 37, 3) := by decide +kernel
theorem dX9_next_222 : decode cX9_next 222 = .ok (.iload_n 2, 1) := by decide +kernel
theorem dX9_next_223 : decode cX9_next 223 = .ok (.iaload, 1) := by decide +kernel
theorem dX9_next_224 : decode cX9_next 224 = .ok (.ifCond .ne 23, 3) := by decide +kernel
theorem dX9_next_227 : decode cX9_next 227 = .ok (.aload_n 0, 1) := by decide +kernel
theorem dX9_next_228 : decode cX9_next 228 = .ok (.getfield 52, 3) := by decide +kernel
theorem dX9_next_231 : decode cX9_next 231 = .ok (.iload_n 2, 1) := by decide +kernel
theorem dX9_next_232 : decode cX9_next 232 = .ok (.iaload, 1) := by decide +kernel
theorem dX9_next_233 : decode cX9_next 233 = .ok (.aload_n 0, 1) := by decide +kernel
theorem dX9_next_234 : decode cX9_next 234 = .ok (.getfield 158, 3) := by decide +kernel
theorem dX9_next_237 : decode cX9_next 237 = .ok (.if_icmp .ge 10, 3) := by decide +kernel
theorem dX9_next_240 : decode cX9_next 240 = .ok (.aload_n 0, 1) := by decide +kernel
theorem dX9_next_241 : decode cX9_next 241 = .ok (.getfield 37, 3) := by decide +kernel
theorem dX9_next_244 : decode cX9_next 244 = .ok (.iload_n 2, 1) := by decide +kernel
theorem dX9_next_245 : decode cX9_next 245 = .ok (.iconst 5, 1) := by decide +kernel
theorem dX9_next_246 : decode cX9_next 246 = .ok (.iastore, 1) := by decide +kernel
theorem dX9_next_247 : decode cX9_next 247 = .ok (.iinc 2 1, 3) := by decide +kernel
theorem dX9_next_250 : decode cX9_next 250 = .ok (.goto (-70), 3) := by decide +kernel
theorem dX9_next_253 : decode cX9_next 253 = .ok (.iload_n 1, 1) := by decide +kernel
theorem dX9_next_254 : decode cX9_next 254 = .ok (.ireturn, 1) := by decide +kernel
theorem dX9_promised_0 : decode cX9_promised 0 = .ok (.aload_n 0, 1) := by decide +kernel
theorem dX9_promised_1 : decode cX9_promised 1 = .ok (.aload_n 0, 1) := by decide +kernel
theorem dX9_promised_2 : decode cX9_promised 2 = .ok (.iload_n 1, 1) := by decide +kernel
theorem dX9_promised_3 : decode cX9_promised 3 = .ok (.invokevirtual 201, 3) := by decide +kernel
theorem dX9_promised_6 : decode cX9_promised 6 = .ok (.ifCond .eq 13, 3) := by decide +kernel
theorem dX9_promised_9 : decode cX9_promised 9 = .ok (.iload_n 2, 1) := by decide +kernel
theorem dX9_promised_10 : decode cX9_promised 10 = .ok (.ifCond .lt 9, 3) := by decide +kernel
theorem dX9_promised_13 : decode cX9_promised 13 = .ok (.iload_n 2, 1) := by decide +kernel
theorem dX9_promised_14 : decode cX9_promised 14 = .ok (.bipush 8, 2) := by decide +kernel
theorem dX9_promised_16 : decode cX9_promised 16 = .ok (.if_icmp .le 7, 3) := by decide +kernel
theorem dX9_promised_19 : decode cX9_promised 19 = .ok (.iconst 1, 1) := by decide +kernel
theorem dX9_promised_20 : decode cX9_promised 20 = .ok (.goto 4, 3) := by decide +kernel
theorem dX9_promised_23 : decode cX9_promised 23 = .ok (.iconst 0, 1) := by decide +kernel
theorem dX9_promised_24 : decode cX9_promised 24 = .ok (.putfield 1, 3) := by decide +kernel
theorem dX9_promised_27 : decode cX9_promised 27 = .ok (.aload_n 0, 1) := by decide +kernel
theorem dX9_promised_28 : decode cX9_promised 28 = .ok (.getfield 1, 3) := by decide +kernel
theorem dX9_promised_31 : decode cX9_promised 31 = .ok (.ifCond .le 5, 3) := by decide +kernel
theorem dX9_promised_34 : decode cX9_promised 34 = .ok (.lconst 0, 1) := by decide +kernel
theorem dX9_promised_35 : decode cX9_promised 35 = .ok (.lreturn, 1) := by decide +kernel
theorem dX9_promised_36 : decode cX9_promised 36 = .ok (.iload_n 2, 1) := by decide +kernel
theorem dX9_promised_37 : decode cX9_promised 37 = .ok (.tableswitch 110 0 7 #[47, 55, 63, 71, 79, 87, 95, 102], 47) := by decide +kernel
theorem dX9_promised_84 : decode cX9_promised 84 = .ok (.aload_n 0, 1) := by decide +kernel
theorem dX9_promised_85 : decode cX9_promised 85 = .ok (.getfield 37, 3) := by decide +kernel
theorem dX9_promised_88 : decode cX9_promised 88 = .ok (.iload_n 1, 1) := by decide +kernel
theorem dX9_promised_89 : decode cX9_promised 89 = .ok (.iaload, 1) := by decide +kernel
theorem dX9_promised_90 : decode cX9_promised 90 = .ok (.i2l, 1) := by decide +kernel
theorem dX9_promised_91 : decode cX9_promised 91 = .ok (.lreturn, 1) := by decide +kernel
theorem dX9_promised_92 : decode cX9_promised 92 = .ok (.aload_n 0, 1) := by decide +kernel
theorem dX9_promised_93 : decode cX9_promised 93 = .ok (.getfield 40, 3) := by decide +kernel
theorem dX9_promised_96 : decode cX9_promised 96 = .ok (.iload_n 1, 1) := by decide +kernel
theorem dX9_promised_97 : decode cX9_promised 97 = .ok (.iaload, 1) := by decide +kernel
theorem dX9_promised_98 : decode cX9_promised 98 = .ok (.i2l, 1) := by decide +kernel
theorem dX9_promised_99 : decode cX9_promised 99 = .ok (.lreturn, 1) := by decide +kernel
theorem dX9_promised_100 : decode cX9_promised 100 = .ok (.aload_n 0, 1) := by decide +kernel
theorem dX9_promised_101 : decode cX9_promised 101 = .ok (.getfield 43, 3) := by decide +kernel
theorem dX9_promised_104 : decode cX9_promised 104 = .ok (.iload_n 1, 1) := by decide +kernel
theorem dX9_promised_105 : decode cX9_promised 105 = .ok (.iaload, 1) := by decide +kernel
theorem dX9_promised_106 : decode cX9_promised 106 = .ok (.i2l, 1) := by decide +kernel
theorem dX9_promised_107 : decode cX9_promised 107 = .ok (.lreturn, 1) := by decide +kernel
theorem dX9_promised_108 : decode cX9_promised 108 = .ok (.aload_n 0, 1) := by decide +kernel
theorem dX9_promised_109 : decode cX9_promised 109 = .ok (.getfield 46, 3) := by decide +kernel
theorem dX9_promised_112 : decode cX9_promised 112 = .ok (.iload_n 1, 1) := by decide +kernel
theorem dX9_promised_113 : decode cX9_promised 113 = .ok (.iaload, 1) := by decide +kernel
theorem dX9_promised_114 : decode cX9_promised 114 = .ok (.i2l, 1) := by decide +kernel
theorem dX9_promised_115 : decode cX9_promised 115 = .ok (.lreturn, 1) := by decide +kernel
theorem dX9_promised_116 : decode cX9_promised 116 = .ok (.aload_n 0, 1) := by decide +kernel
theorem dX9_promised_117 : decode cX9_promised 117 = .ok (.getfield 49, 3) := by decide +kernel
theorem dX9_promised_120 : decode cX9_promised 120 = .ok (.iload_n 1, 1) := by decide +kernel
theorem dX9_promised_121 : decode cX9_promised 121 = .ok (.iaload, 1) := by decide +kernel
theorem dX9_promised_122 : decode cX9_promised 122 = .ok (.i2l, 1) := by decide +kernel
theorem dX9_promised_123 : decode cX9_promised 123 = .ok (.lreturn, 1) := by decide +kernel
theorem dX9_promised_124 : decode cX9_promised 124 = .ok (.aload_n 0, 1) := by decide +kernel
theorem dX9_promised_125 : decode cX9_promised 125 = .ok (.getfield 52, 3) := by decide +kernel
theorem dX9_promised_128 : decode cX9_promised 128 = .ok (.iload_n 1, 1) := by decide +kernel
theorem dX9_promised_129 : decode cX9_promised 129 = .ok (.iaload, 1) := by decide +kernel
theorem dX9_promised_130 : decode cX9_promised 130 = .ok (.i2l, 1) := by decide +kernel
theorem dX9_promised_131 : decode cX9_promised 131 = .ok (.lreturn, 1) := by decide +kernel
theorem dX9_promised_132 : decode cX9_promised 132 = .ok (.aload_n 0, 1) := by decide +kernel
theorem dX9_promised_133 : decode cX9_promised 133 = .ok (.getfield 61, 3) := by decide +kernel
theorem dX9_promised_136 : decode cX9_promised 136 = .ok (.iload_n 1, 1) := by decide +kernel
theorem dX9_promised_137 : decode cX9_promised 137 = .ok (.laload, 1) := by decide +kernel
theorem dX9_promised_138 : decode cX9_promised 138 = .ok (.lreturn, 1) := by decide +kernel
theorem dX9_promised_139 : decode cX9_promised 139 = .ok (.aload_n 0, 1) := by decide +kernel
theorem dX9_promised_140 : decode cX9_promised 140 = .ok (.getfield 55, 3) := by decide +kernel
theorem dX9_promised_143 : decode cX9_promised 143 = .ok (.iload_n 1, 1) := by decide +kernel
theorem dX9_promised_144 : decode cX9_promised 144 = .ok (.iaload, 1) := by decide +kernel
theorem dX9_promised_145 : decode cX9_promised 145 = .ok (.i2l, 1) := by decide +kernel
theorem dX9_promised_146 : decode cX9_promised 146 = .ok (.lreturn, 1) := by decide +kernel
theorem dX9_promised_147 : decode cX9_promised 147 = .ok (.aload_n 0, 1) := by decide +kernel
theorem dX9_promised_148 : decode cX9_promised 148 = .ok (.getfield 58, 3) := by decide +kernel
theorem dX9_promised_151 : decode cX9_promised 151 = .ok (.iload_n 1, 1) := by decide +kernel
theorem dX9_promised_152 : decode cX9_promised 152 = .ok (.iaload, 1) := by decide +kernel
theorem dX9_promised_153 : decode cX9_promised 153 = .ok (.i2l, 1) := by decide +kernel
theorem dX9_promised_154 : decode cX9_promised 154 = .ok (.lreturn, 1) := by decide +kernel
theorem dX9_spot_0 : decode cX9_spot 0 = .ok (.aload_n 0, 1) := by decide +kernel
theorem dX9_spot_1 : decode cX9_spot 1 = .ok (.iconst 0, 1) := by decide +kernel
theorem dX9_spot_2 : decode cX9_spot 2 = .ok (.putfield 1, 3) := by decide +kernel
theorem dX9_spot_5 : decode cX9_spot 5 = .ok (.aload_n 0, 1) := by decide +kernel
theorem dX9_spot_6 : decode cX9_spot 6 = .ok (.iload_n 1, 1) := by decide +kernel
theorem dX9_spot_7 : decode cX9_spot 7 = .ok (.invokevirtual 201, 3) := by decide +kernel
theorem dX9_spot_10 : decode cX9_spot 10 = .ok (.ifCond .eq 10, 3) := by decide +kernel
theorem dX9_spot_13 : decode cX9_spot 13 = .ok (.iload_n 2, 1) := by decide +kernel
theorem dX9_spot_14 : decode cX9_spot 14 = .ok (.invokestatic 114, 3) := by decide +kernel
theorem dX9_spot_17 : decode cX9_spot 17 = .ok (.ifCond .ne 5, 3) := by decide +kernel
theorem dX9_spot_20 : decode cX9_spot 20 = .ok (.iconst (-1), 1) := by decide +kernel
theorem dX9_spot_21 : decode cX9_spot 21 = .ok (.ireturn, 1) := by decide +kernel
theorem dX9_spot_22 : decode cX9_spot 22 = .ok (.aload_n 0, 1) := by decide +kernel
theorem dX9_spot_23 : decode cX9_spot 23 = .ok (.invokevirtual 210, 3) := by decide +kernel
theorem dX9_spot_26 : decode cX9_spot 26 = .ok (.aload_n 0, 1) := by decide +kernel
theorem dX9_spot_27 : decode cX9_spot 27 = .ok (.getfield 64, 3) := by decide +kernel
theorem dX9_spot_30 : decode cX9_spot 30 = .ok (.bipush 60, 2) := by decide +kernel
theorem dX9_spot_32 : decode cX9_spot 32 = .ok (.iload_n 1, 1) := by decide +kernel
theorem dX9_spot_33 : decode cX9_spot 33 = .ok (.imul, 1) := by decide +kernel
theorem dX9_spot_34 : decode cX9_spot 34 = .ok (.iload_n 2, 1) := by decide +kernel
theorem dX9_spot_35 : decode cX9_spot 35 = .ok (.iadd, 1) := by decide +kernel
theorem dX9_spot_36 : decode cX9_spot 36 = .ok (.iaload, 1) := by decide +kernel
theorem dX9_spot_37 : decode cX9_spot 37 = .ok (.ireturn, 1) := by decide +kernel
theorem dX9_moves_0 : decode cX9_moves 0 = .ok (.aload_n 0, 1) := by decide +kernel
theorem dX9_moves_1 : decode cX9_moves 1 = .ok (.iconst 0, 1) := by decide +kernel
theorem dX9_moves_2 : decode cX9_moves 2 = .ok (.putfield 1, 3) := by decide +kernel
theorem dX9_moves_5 : decode cX9_moves 5 = .ok (.aload_n 0, 1) := by decide +kernel
theorem dX9_moves_6 : decode cX9_moves 6 = .ok (.invokevirtual 210, 3) := by decide +kernel
theorem dX9_moves_9 : decode cX9_moves 9 = .ok (.iconst 0, 1) := by decide +kernel
theorem dX9_moves_10 : decode cX9_moves 10 = .ok (.istore_n 1, 1) := by decide +kernel
theorem dX9_moves_11 : decode cX9_moves 11 = .ok (.iconst 0, 1) := by decide +kernel
theorem dX9_moves_12 : decode cX9_moves 12 = .ok (.istore_n 2, 1) := by decide +kernel
theorem dX9_moves_13 : decode cX9_moves 13 = .ok (.iload_n 2, 1) := by decide +kernel
theorem dX9_moves_14 : decode cX9_moves 14 = .ok (.aload_n 0, 1) := by decide +kernel
theorem dX9_moves_15 : decode cX9_moves 15 = .ok (.getfield 117, 3) := by decide +kernel
theorem dX9_moves_18 : decode cX9_moves 18 = .ok (.if_icmp .ge 38, 3) := by decide +kernel
theorem dX9_moves_21 : decode cX9_moves 21 = .ok (.aload_n 0, 1) := by decide +kernel
theorem dX9_moves_22 : decode cX9_moves 22 = .ok (.getfield 158, 3) := by decide +kernel
theorem dX9_moves_25 : decode cX9_moves 25 = .ok (.istore_n 3, 1) := by decide +kernel
theorem dX9_moves_26 : decode cX9_moves 26 = .ok (.iload_n 3, 1) := by decide +kernel
theorem dX9_moves_27 : decode cX9_moves 27 = .ok (.bipush 60, 2) := by decide +kernel
theorem dX9_moves_29 : decode cX9_moves 29 = .ok (.if_icmp .ge 21, 3) := by decide +kernel
theorem dX9_moves_32 : decode cX9_moves 32 = .ok (.aload_n 0, 1) := by decide +kernel
theorem dX9_moves_33 : decode cX9_moves 33 = .ok (.iload_n 2, 1) := by decide +kernel
theorem dX9_moves_34 : decode cX9_moves 34 = .ok (.iload_n 3, 1) := by decide +kernel
theorem dX9_moves_35 : decode cX9_moves 35 = .ok (.invokevirtual 207, 3) := by decide +kernel
theorem dX9_moves_38 : decode cX9_moves 38 = .ok (.ifCond .eq 6, 3) := by decide +kernel
theorem dX9_moves_41 : decode cX9_moves 41 = .ok (.iinc 1 1, 3) := by decide +kernel
theorem dX9_moves_44 : decode cX9_moves 44 = .ok (.iinc 3 1, 3) := by decide +kernel
theorem dX9_moves_47 : decode cX9_moves 47 = .ok (.goto (-21), 3) := by decide +kernel
theorem dX9_moves_50 : decode cX9_moves 50 = .ok (.iinc 2 1, 3) := by decide +kernel
theorem dX9_moves_53 : decode cX9_moves 53 = .ok (.goto (-40), 3) := by decide +kernel
theorem dX9_moves_56 : decode cX9_moves 56 = .ok (.iload_n 1, 1) := by decide +kernel
theorem dX9_moves_57 : decode cX9_moves 57 = .ok (.ireturn, 1) := by decide +kernel
theorem dX9_floors_0 : decode cX9_floors 0 = .ok (.aload_n 0, 1) := by decide +kernel
theorem dX9_floors_1 : decode cX9_floors 1 = .ok (.iconst 0, 1) := by decide +kernel
theorem dX9_floors_2 : decode cX9_floors 2 = .ok (.putfield 1, 3) := by decide +kernel
theorem dX9_floors_5 : decode cX9_floors 5 = .ok (.iload_n 3, 1) := by decide +kernel
theorem dX9_floors_6 : decode cX9_floors 6 = .ok (.invokestatic 114, 3) := by decide +kernel
theorem dX9_floors_9 : decode cX9_floors 9 = .ok (.ifCond .ne 5, 3) := by decide +kernel
theorem dX9_floors_12 : decode cX9_floors 12 = .ok (.iconst 0, 1) := by decide +kernel
theorem dX9_floors_13 : decode cX9_floors 13 = .ok (.ireturn, 1) := by decide +kernel
theorem dX9_floors_14 : decode cX9_floors 14 = .ok (.aload_n 0, 1) := by decide +kernel
theorem dX9_floors_15 : decode cX9_floors 15 = .ok (.invokevirtual 210, 3) := by decide +kernel
theorem dX9_floors_18 : decode cX9_floors 18 = .ok (.iconst 0, 1) := by decide +kernel
theorem dX9_floors_19 : decode cX9_floors 19 = .ok (.istore 4, 2) := by decide +kernel
theorem dX9_floors_21 : decode cX9_floors 21 = .ok (.iconst 0, 1) := by decide +kernel
theorem dX9_floors_22 : decode cX9_floors 22 = .ok (.istore 5, 2) := by decide +kernel
theorem dX9_floors_24 : decode cX9_floors 24 = .ok (.iload 5, 2) := by decide +kernel
theorem dX9_floors_26 : decode cX9_floors 26 = .ok (.aload_n 0, 1) := by decide +kernel
theorem dX9_floors_27 : decode cX9_floors 27 = .ok (.getfield 117, 3) := by decide +kernel
theorem dX9_floors_30 : decode cX9_floors 30 = .ok (.if_icmp .ge 64, 3) := by decide +kernel
theorem dX9_floors_33 : decode cX9_floors 33 = .ok (.iload 5, 2) := by decide +kernel
theorem dX9_floors_35 : decode cX9_floors 35 = .ok (.iload_n 1, 1) := by decide +kernel
theorem dX9_floors_36 : decode cX9_floors 36 = .ok (.if_icmp .lt 52, 3) := by decide +kernel
theorem dX9_floors_39 : decode cX9_floors 39 = .ok (.iload 5, 2) := by decide +kernel
theorem dX9_floors_41 : decode cX9_floors 41 = .ok (.iload_n 2, 1) := by decide +kernel
theorem dX9_floors_42 : decode cX9_floors 42 = .ok (.if_icmp .gt 46, 3) := by decide +kernel
theorem dX9_floors_45 : decode cX9_floors 45 = .ok (.aload_n 0, 1) := by decide +kernel
theorem dX9_floors_46 : decode cX9_floors 46 = .ok (.getfield 64, 3) := by decide +kernel
theorem dX9_floors_49 : decode cX9_floors 49 = .ok (.bipush 60, 2) := by decide +kernel
theorem dX9_floors_51 : decode cX9_floors 51 = .ok (.iload 5, 2) := by decide +kernel
theorem dX9_floors_53 : decode cX9_floors 53 = .ok (.imul, 1) := by decide +kernel
theorem dX9_floors_54 : decode cX9_floors 54 = .ok (.iload_n 3, 1) := by decide +kernel
theorem dX9_floors_55 : decode cX9_floors 55 = .ok (.iadd, 1) := by decide +kernel
theorem dX9_floors_56 : decode cX9_floors 56 = .ok (.iaload, 1) := by decide +kernel
theorem dX9_floors_57 : decode cX9_floors 57 = .ok (.iconst (-1), 1) := by decide +kernel
theorem dX9_floors_58 : decode cX9_floors 58 = .ok (.if_icmp .eq 30, 3) := by decide +kernel
theorem dX9_floors_61 : decode cX9_floors 61 = .ok (.iload 4, 2) := by decide +kernel
theorem dX9_floors_63 : decode cX9_floors 63 = .ok (.iconst 1, 1) := by decide +kernel
theorem dX9_floors_64 : decode cX9_floors 64 = .ok (.aload_n 0, 1) := by decide +kernel
theorem dX9_floors_65 : decode cX9_floors 65 = .ok (.getfield 17, 3) := by decide +kernel
theorem dX9_floors_68 : decode cX9_floors 68 = .ok (.aload_n 0, 1) := by decide +kernel
theorem dX9_floors_69 : decode cX9_floors 69 = .ok (.getfield 64, 3) := by decide +kernel
theorem dX9_floors_72 : decode cX9_floors 72 = .ok (.bipush 60, 2) := by decide +kernel
theorem dX9_floors_74 : decode cX9_floors 74 = .ok (.iload 5, 2) := by decide +kernel
theorem dX9_floors_76 : decode cX9_floors 76 = .ok (.imul, 1) := by decide +kernel
theorem dX9_floors_77 : decode cX9_floors 77 = .ok (.iload_n 3, 1) := by decide +kernel
theorem dX9_floors_78 : decode cX9_floors 78 = .ok (.iadd, 1) := by decide +kernel
theorem dX9_floors_79 : decode cX9_floors 79 = .ok (.iaload, 1) := by decide +kernel
theorem dX9_floors_80 : decode cX9_floors 80 = .ok (.bipush 32, 2) := by decide +kernel
theorem dX9_floors_82 : decode cX9_floors 82 = .ok (.idiv, 1) := by decide +kernel
theorem dX9_floors_83 : decode cX9_floors 83 = .ok (.iaload, 1) := by decide +kernel
theorem dX9_floors_84 : decode cX9_floors 84 = .ok (.ishl, 1) := by decide +kernel
theorem dX9_floors_85 : decode cX9_floors 85 = .ok (.ior, 1) := by decide +kernel
theorem dX9_floors_86 : decode cX9_floors 86 = .ok (.istore 4, 2) := by decide +kernel
theorem dX9_floors_88 : decode cX9_floors 88 = .ok (.iinc 5 1, 3) := by decide +kernel
theorem dX9_floors_91 : decode cX9_floors 91 = .ok (.goto (-67), 3) := by decide +kernel
theorem dX9_floors_94 : decode cX9_floors 94 = .ok (.iconst 0, 1) := by decide +kernel
theorem dX9_floors_95 : decode cX9_floors 95 = .ok (.istore 5, 2) := by decide +kernel
theorem dX9_floors_97 : decode cX9_floors 97 = .ok (.iconst 0, 1) := by decide +kernel
theorem dX9_floors_98 : decode cX9_floors 98 = .ok (.istore 6, 2) := by decide +kernel
theorem dX9_floors_100 : decode cX9_floors 100 = .ok (.iload 6, 2) := by decide +kernel
theorem dX9_floors_102 : decode cX9_floors 102 = .ok (.bipush 10, 2) := by decide +kernel
theorem dX9_floors_104 : decode cX9_floors 104 = .ok (.if_icmp .ge 21, 3) := by decide +kernel
theorem dX9_floors_107 : decode cX9_floors 107 = .ok (.iload 5, 2) := by decide +kernel
theorem dX9_floors_109 : decode cX9_floors 109 = .ok (.iload 4, 2) := by decide +kernel
theorem dX9_floors_111 : decode cX9_floors 111 = .ok (.iload 6, 2) := by decide +kernel
theorem dX9_floors_113 : decode cX9_floors 113 = .ok (.ishr, 1) := by decide +kernel
theorem dX9_floors_114 : decode cX9_floors 114 = .ok (.iconst 1, 1) := by decide +kernel
theorem dX9_floors_115 : decode cX9_floors 115 = .ok (.iand, 1) := by decide +kernel
theorem dX9_floors_116 : decode cX9_floors 116 = .ok (.iadd, 1) := by decide +kernel
theorem dX9_floors_117 : decode cX9_floors 117 = .ok (.istore 5, 2) := by decide +kernel
theorem dX9_floors_119 : decode cX9_floors 119 = .ok (.iinc 6 1, 3) := by decide +kernel
theorem dX9_floors_122 : decode cX9_floors 122 = .ok (.goto (-22), 3) := by decide +kernel
theorem dX9_floors_125 : decode cX9_floors 125 = .ok (.iload 5, 2) := by decide +kernel
theorem dX9_floors_127 : decode cX9_floors 127 = .ok (.ireturn, 1) := by decide +kernel
theorem dX9_lacks_0 : decode cX9_lacks 0 = .ok (.aload_n 0, 1) := by decide +kernel
theorem dX9_lacks_1 : decode cX9_lacks 1 = .ok (.iconst 0, 1) := by decide +kernel
theorem dX9_lacks_2 : decode cX9_lacks 2 = .ok (.putfield 1, 3) := by decide +kernel
theorem dX9_lacks_5 : decode cX9_lacks 5 = .ok (.iload_n 1, 1) := by decide +kernel
theorem dX9_lacks_6 : decode cX9_lacks 6 = .ok (.invokestatic 114, 3) := by decide +kernel
theorem dX9_lacks_9 : decode cX9_lacks 9 = .ok (.ifCond .eq 11, 3) := by decide +kernel
theorem dX9_lacks_12 : decode cX9_lacks 12 = .ok (.iload_n 1, 1) := by decide +kernel
theorem dX9_lacks_13 : decode cX9_lacks 13 = .ok (.aload_n 0, 1) := by decide +kernel
theorem dX9_lacks_14 : decode cX9_lacks 14 = .ok (.getfield 158, 3) := by decide +kernel
theorem dX9_lacks_17 : decode cX9_lacks 17 = .ok (.if_icmp .ge 7, 3) := by decide +kernel
theorem dX9_lacks_20 : decode cX9_lacks 20 = .ok (.iconst (-1), 1) := by decide +kernel
theorem dX9_lacks_21 : decode cX9_lacks 21 = .ok (.goto 10, 3) := by decide +kernel
theorem dX9_lacks_24 : decode cX9_lacks 24 = .ok (.aload_n 0, 1) := by decide +kernel
theorem dX9_lacks_25 : decode cX9_lacks 25 = .ok (.iload_n 1, 1) := by decide +kernel
theorem dX9_lacks_26 : decode cX9_lacks 26 = .ok (.iconst (-1), 1) := by decide +kernel
theorem dX9_lacks_27 : decode cX9_lacks 27 = .ok (.iconst (-1), 1) := by decide +kernel
theorem dX9_lacks_28 : decode cX9_lacks 28 = .ok (.invokevirtual 186, 3) := by decide +kernel
theorem dX9_lacks_31 : decode cX9_lacks 31 = .ok (.ireturn, 1) := by decide +kernel
theorem dX9_rooms_0 : decode cX9_rooms 0 = .ok (.aload_n 0, 1) := by decide +kernel
theorem dX9_rooms_1 : decode cX9_rooms 1 = .ok (.iconst 0, 1) := by decide +kernel
theorem dX9_rooms_2 : decode cX9_rooms 2 = .ok (.putfield 1, 3) := by decide +kernel
theorem dX9_rooms_5 : decode cX9_rooms 5 = .ok (.iload_n 1, 1) := by decide +kernel
theorem dX9_rooms_6 : decode cX9_rooms 6 = .ok (.ifCond .lt 24, 3) := by decide +kernel
theorem dX9_rooms_9 : decode cX9_rooms 9 = .ok (.iload_n 1, 1) := by decide +kernel
theorem dX9_rooms_10 : decode cX9_rooms 10 = .ok (.iconst 3, 1) := by decide +kernel
theorem dX9_rooms_11 : decode cX9_rooms 11 = .ok (.if_icmp .gt 19, 3) := by decide +kernel
theorem dX9_rooms_14 : decode cX9_rooms 14 = .ok (.iload_n 2, 1) := by decide +kernel
theorem dX9_rooms_15 : decode cX9_rooms 15 = .ok (.invokestatic 114, 3) := by decide +kernel
theorem dX9_rooms_18 : decode cX9_rooms 18 = .ok (.ifCond .eq 12, 3) := by decide +kernel
theorem dX9_rooms_21 : decode cX9_rooms 21 = .ok (.iload_n 3, 1) := by decide +kernel
theorem dX9_rooms_22 : decode cX9_rooms 22 = .ok (.ifCond .lt 8, 3) := by decide +kernel
theorem dX9_rooms_25 : decode cX9_rooms 25 = .ok (.iload_n 3, 1) := by decide +kernel
theorem dX9_rooms_26 : decode cX9_rooms 26 = .ok (.iconst 1, 1) := by decide +kernel
theorem dX9_rooms_27 : decode cX9_rooms 27 = .ok (.if_icmp .le 5, 3) := by decide +kernel
theorem dX9_rooms_30 : decode cX9_rooms 30 = .ok (.iconst (-1), 1) := by decide +kernel
theorem dX9_rooms_31 : decode cX9_rooms 31 = .ok (.ireturn, 1) := by decide +kernel
theorem dX9_rooms_32 : decode cX9_rooms 32 = .ok (.aload_n 0, 1) := by decide +kernel
theorem dX9_rooms_33 : decode cX9_rooms 33 = .ok (.invokevirtual 210, 3) := by decide +kernel
theorem dX9_rooms_36 : decode cX9_rooms 36 = .ok (.iconst 0, 1) := by decide +kernel
theorem dX9_rooms_37 : decode cX9_rooms 37 = .ok (.istore 4, 2) := by decide +kernel
theorem dX9_rooms_39 : decode cX9_rooms 39 = .ok (.iconst 0, 1) := by decide +kernel
theorem dX9_rooms_40 : decode cX9_rooms 40 = .ok (.istore 5, 2) := by decide +kernel
theorem dX9_rooms_42 : decode cX9_rooms 42 = .ok (.iload 5, 2) := by decide +kernel
theorem dX9_rooms_44 : decode cX9_rooms 44 = .ok (.bipush 16, 2) := by decide +kernel
theorem dX9_rooms_46 : decode cX9_rooms 46 = .ok (.if_icmp .ge 82, 3) := by decide +kernel
theorem dX9_rooms_49 : decode cX9_rooms 49 = .ok (.aload_n 0, 1) := by decide +kernel
theorem dX9_rooms_50 : decode cX9_rooms 50 = .ok (.getfield 13, 3) := by decide +kernel
theorem dX9_rooms_53 : decode cX9_rooms 53 = .ok (.iload 5, 2) := by decide +kernel
theorem dX9_rooms_55 : decode cX9_rooms 55 = .ok (.iaload, 1) := by decide +kernel
theorem dX9_rooms_56 : decode cX9_rooms 56 = .ok (.iload_n 1, 1) := by decide +kernel
theorem dX9_rooms_57 : decode cX9_rooms 57 = .ok (.if_icmp .ne 65, 3) := by decide +kernel
theorem dX9_rooms_60 : decode cX9_rooms 60 = .ok (.aload_n 0, 1) := by decide +kernel
theorem dX9_rooms_61 : decode cX9_rooms 61 = .ok (.iload 5, 2) := by decide +kernel
theorem dX9_rooms_63 : decode cX9_rooms 63 = .ok (.iload_n 2, 1) := by decide +kernel
theorem dX9_rooms_64 : decode cX9_rooms 64 = .ok (.invokevirtual 126, 3) := by decide +kernel
theorem dX9_rooms_67 : decode cX9_rooms 67 = .ok (.ifCond .ne 6, 3) := by decide +kernel
theorem dX9_rooms_70 : decode cX9_rooms 70 = .ok (.goto 52, 3) := by decide +kernel
theorem dX9_rooms_73 : decode cX9_rooms 73 = .ok (.iconst 0, 1) := by decide +kernel
theorem dX9_rooms_74 : decode cX9_rooms 74 = .ok (.istore 6, 2) := by decide +kernel
theorem dX9_rooms_76 : decode cX9_rooms 76 = .ok (.iload 6, 2) := by decide +kernel
theorem dX9_rooms_78 : decode cX9_rooms 78 = .ok (.iload_n 1, 1) := by decide +kernel
theorem dX9_rooms_79 : decode cX9_rooms 79 = .ok (.iconst 3, 1) := by decide +kernel
theorem dX9_rooms_80 : decode cX9_rooms 80 = .ok (.if_icmp .ne 13, 3) := by decide +kernel
theorem dX9_rooms_83 : decode cX9_rooms 83 = .ok (.aload_n 0, 1) := by decide +kernel
theorem dX9_rooms_84 : decode cX9_rooms 84 = .ok (.getfield 20, 3) := by decide +kernel
theorem dX9_rooms_87 : decode cX9_rooms 87 = .ok (.iload 5, 2) := by decide +kernel
theorem dX9_rooms_89 : decode cX9_rooms 89 = .ok (.iaload, 1) := by decide +kernel
theorem dX9_rooms_90 : decode cX9_rooms 90 = .ok (.goto 4, 3) := by decide +kernel
theorem dX9_rooms_93 : decode cX9_rooms 93 = .ok (.iconst 1, 1) := by decide +kernel
theorem dX9_rooms_94 : decode cX9_rooms 94 = .ok (.if_icmp .ge 28, 3) := by decide +kernel
theorem dX9_rooms_97 : decode cX9_rooms 97 = .ok (.iload_n 3, 1) := by decide +kernel
theorem dX9_rooms_98 : decode cX9_rooms 98 = .ok (.ifCond .eq 15, 3) := by decide +kernel
theorem dX9_rooms_101 : decode cX9_rooms 101 = .ok (.aload_n 0, 1) := by decide +kernel
theorem dX9_rooms_102 : decode cX9_rooms 102 = .ok (.iload 5, 2) := by decide +kernel
theorem dX9_rooms_104 : decode cX9_rooms 104 = .ok (.iload 6, 2) := by decide +kernel
theorem dX9_rooms_106 : decode cX9_rooms 106 = .ok (.iload_n 2, 1) := by decide +kernel
theorem dX9_rooms_107 : decode cX9_rooms 107 = .ok (.invokevirtual 213, 3) := by decide +kernel
theorem dX9_rooms_110 : decode cX9_rooms 110 = .ok (.ifCond .eq 6, 3) := by decide +kernel
theorem dX9_rooms_113 : decode cX9_rooms 113 = .ok (.iinc 4 1, 3) := by decide +kernel
theorem dX9_rooms_116 : decode cX9_rooms 116 = .ok (.iinc 6 1, 3) := by decide +kernel
theorem dX9_rooms_119 : decode cX9_rooms 119 = .ok (.goto (-43), 3) := by decide +kernel
theorem dX9_rooms_122 : decode cX9_rooms 122 = .ok (.iinc 5 1, 3) := by decide +kernel
theorem dX9_rooms_125 : decode cX9_rooms 125 = .ok (.goto (-83), 3) := by decide +kernel
theorem dX9_rooms_128 : decode cX9_rooms 128 = .ok (.iload 4, 2) := by decide +kernel
theorem dX9_rooms_130 : decode cX9_rooms 130 = .ok (.ireturn, 1) := by decide +kernel
theorem dX9_hasSomebody_0 : decode cX9_hasSomebody 0 = .ok (.iconst 0, 1) := by decide +kernel
theorem dX9_hasSomebody_1 : decode cX9_hasSomebody 1 = .ok (.istore 4, 2) := by decide +kernel
theorem dX9_hasSomebody_3 : decode cX9_hasSomebody 3 = .ok (.iload 4, 2) := by decide +kernel
theorem dX9_hasSomebody_5 : decode cX9_hasSomebody 5 = .ok (.aload_n 0, 1) := by decide +kernel
theorem dX9_hasSomebody_6 : decode cX9_hasSomebody 6 = .ok (.getfield 117, 3) := by decide +kernel
theorem dX9_hasSomebody_9 : decode cX9_hasSomebody 9 = .ok (.if_icmp .ge 76, 3) := by decide +kernel
theorem dX9_hasSomebody_12 : decode cX9_hasSomebody 12 = .ok (.aload_n 0, 1) := by decide +kernel
theorem dX9_hasSomebody_13 : decode cX9_hasSomebody 13 = .ok (.getfield 64, 3) := by decide +kernel
theorem dX9_hasSomebody_16 : decode cX9_hasSomebody 16 = .ok (.bipush 60, 2) := by decide +kernel
theorem dX9_hasSomebody_18 : decode cX9_hasSomebody 18 = .ok (.iload 4, 2) := by decide +kernel
theorem dX9_hasSomebody_20 : decode cX9_hasSomebody 20 = .ok (.imul, 1) := by decide +kernel
theorem dX9_hasSomebody_21 : decode cX9_hasSomebody 21 = .ok (.iload_n 3, 1) := by decide +kernel
theorem dX9_hasSomebody_22 : decode cX9_hasSomebody 22 = .ok (.iadd, 1) := by decide +kernel
theorem dX9_hasSomebody_23 : decode cX9_hasSomebody 23 = .ok (.iaload, 1) := by decide +kernel
theorem dX9_hasSomebody_24 : decode cX9_hasSomebody 24 = .ok (.istore 5, 2) := by decide +kernel
theorem dX9_hasSomebody_26 : decode cX9_hasSomebody 26 = .ok (.iload 5, 2) := by decide +kernel
theorem dX9_hasSomebody_28 : decode cX9_hasSomebody 28 = .ok (.iconst (-1), 1) := by decide +kernel
theorem dX9_hasSomebody_29 : decode cX9_hasSomebody 29 = .ok (.if_icmp .ne 6, 3) := by decide +kernel
theorem dX9_hasSomebody_32 : decode cX9_hasSomebody 32 = .ok (.goto 47, 3) := by decide +kernel
theorem dX9_hasSomebody_35 : decode cX9_hasSomebody 35 = .ok (.iload 5, 2) := by decide +kernel
theorem dX9_hasSomebody_37 : decode cX9_hasSomebody 37 = .ok (.bipush 32, 2) := by decide +kernel
theorem dX9_hasSomebody_39 : decode cX9_hasSomebody 39 = .ok (.idiv, 1) := by decide +kernel
theorem dX9_hasSomebody_40 : decode cX9_hasSomebody 40 = .ok (.iload_n 1, 1) := by decide +kernel
theorem dX9_hasSomebody_41 : decode cX9_hasSomebody 41 = .ok (.if_icmp .ne 14, 3) := by decide +kernel
theorem dX9_hasSomebody_44 : decode cX9_hasSomebody 44 = .ok (.iload 5, 2) := by decide +kernel
theorem dX9_hasSomebody_46 : decode cX9_hasSomebody 46 = .ok (.bipush 32, 2) := by decide +kernel
theorem dX9_hasSomebody_48 : decode cX9_hasSomebody 48 = .ok (.irem, 1) := by decide +kernel
theorem dX9_hasSomebody_49 : decode cX9_hasSomebody 49 = .ok (.iconst 4, 1) := by decide +kernel
theorem dX9_hasSomebody_50 : decode cX9_hasSomebody 50 = .ok (.idiv, 1) := by decide +kernel
theorem dX9_hasSomebody_51 : decode cX9_hasSomebody 51 = .ok (.iload_n 2, 1) := by decide +kernel
theorem dX9_hasSomebody_52 : decode cX9_hasSomebody 52 = .ok (.if_icmp .eq 25, 3) := by decide +kernel
theorem dX9_hasSomebody_55 : decode cX9_hasSomebody 55 = .ok (.iload 5, 2) := by decide +kernel
theorem dX9_hasSomebody_57 : decode cX9_hasSomebody 57 = .ok (.iconst 4, 1) := by decide +kernel
theorem dX9_hasSomebody_58 : decode cX9_hasSomebody 58 = .ok (.irem, 1) := by decide +kernel
theorem dX9_hasSomebody_59 : decode cX9_hasSomebody 59 = .ok (.iconst 1, 1) := by decide +kernel
theorem dX9_hasSomebody_60 : decode cX9_hasSomebody 60 = .ok (.if_icmp .ne 19, 3) := by decide +kernel
theorem dX9_hasSomebody_63 : decode cX9_hasSomebody 63 = .ok (.aload_n 0, 1) := by decide +kernel
theorem dX9_hasSomebody_64 : decode cX9_hasSomebody 64 = .ok (.getfield 23, 3) := by decide +kernel
theorem dX9_hasSomebody_67 : decode cX9_hasSomebody 67 = .ok (.iload 5, 2) := by decide +kernel
theorem dX9_hasSomebody_69 : decode cX9_hasSomebody 69 = .ok (.bipush 32, 2) := by decide +kernel
theorem dX9_hasSomebody_71 : decode cX9_hasSomebody 71 = .ok (.idiv, 1) := by decide +kernel
theorem dX9_hasSomebody_72 : decode cX9_hasSomebody 72 = .ok (.iaload, 1) := by decide +kernel
theorem dX9_hasSomebody_73 : decode cX9_hasSomebody 73 = .ok (.iload_n 1, 1) := by decide +kernel
theorem dX9_hasSomebody_74 : decode cX9_hasSomebody 74 = .ok (.if_icmp .ne 5, 3) := by decide +kernel
theorem dX9_hasSomebody_77 : decode cX9_hasSomebody 77 = .ok (.iconst 1, 1) := by decide +kernel
theorem dX9_hasSomebody_78 : decode cX9_hasSomebody 78 = .ok (.ireturn, 1) := by decide +kernel
theorem dX9_hasSomebody_79 : decode cX9_hasSomebody 79 = .ok (.iinc 4 1, 3) := by decide +kernel
theorem dX9_hasSomebody_82 : decode cX9_hasSomebody 82 = .ok (.goto (-79), 3) := by decide +kernel
theorem dX9_hasSomebody_85 : decode cX9_hasSomebody 85 = .ok (.iconst 0, 1) := by decide +kernel
theorem dX9_hasSomebody_86 : decode cX9_hasSomebody 86 = .ok (.ireturn, 1) := by decide +kernel
theorem dX9_over_0 : decode cX9_over 0 = .ok (.aload_n 0, 1) := by decide +kernel
theorem dX9_over_1 : decode cX9_over 1 = .ok (.iconst 0, 1) := by decide +kernel
theorem dX9_over_2 : decode cX9_over 2 = .ok (.putfield 1, 3) := by decide +kernel
theorem dX9_over_5 : decode cX9_over 5 = .ok (.iload_n 1, 1) := by decide +kernel
theorem dX9_over_6 : decode cX9_over 6 = .ok (.ifCond .lt 9, 3) := by decide +kernel
theorem dX9_over_9 : decode cX9_over 9 = .ok (.iload_n 1, 1) := by decide +kernel
theorem dX9_over_10 : decode cX9_over 10 = .ok (.bipush 40, 2) := by decide +kernel
theorem dX9_over_12 : decode cX9_over 12 = .ok (.if_icmp .le 5, 3) := by decide +kernel
theorem dX9_over_15 : decode cX9_over 15 = .ok (.iconst 0, 1) := by decide +kernel
theorem dX9_over_16 : decode cX9_over 16 = .ok (.ireturn, 1) := by decide +kernel
theorem dX9_over_17 : decode cX9_over 17 = .ok (.aload_n 0, 1) := by decide +kernel
theorem dX9_over_18 : decode cX9_over 18 = .ok (.iload_n 1, 1) := by decide +kernel
theorem dX9_over_19 : decode cX9_over 19 = .ok (.putfield 190, 3) := by decide +kernel
theorem dX9_over_22 : decode cX9_over 22 = .ok (.iconst 1, 1) := by decide +kernel
theorem dX9_over_23 : decode cX9_over 23 = .ok (.ireturn, 1) := by decide +kernel
theorem dX9_price_0 : decode cX9_price 0 = .ok (.aload_n 0, 1) := by decide +kernel
theorem dX9_price_1 : decode cX9_price 1 = .ok (.iconst 0, 1) := by decide +kernel
theorem dX9_price_2 : decode cX9_price 2 = .ok (.putfield 1, 3) := by decide +kernel
theorem dX9_price_5 : decode cX9_price 5 = .ok (.iload_n 1, 1) := by decide +kernel
theorem dX9_price_6 : decode cX9_price 6 = .ok (.ifCond .lt 28, 3) := by decide +kernel
theorem dX9_price_9 : decode cX9_price 9 = .ok (.iload_n 1, 1) := by decide +kernel
theorem dX9_price_10 : decode cX9_price 10 = .ok (.iconst 4, 1) := by decide +kernel
theorem dX9_price_11 : decode cX9_price 11 = .ok (.if_icmp .gt 23, 3) := by decide +kernel
theorem dX9_price_14 : decode cX9_price 14 = .ok (.iload_n 2, 1) := by decide +kernel
theorem dX9_price_15 : decode cX9_price 15 = .ok (.iload_n 3, 1) := by decide +kernel
theorem dX9_price_16 : decode cX9_price 16 = .ok (.invokestatic 110, 3) := by decide +kernel
theorem dX9_price_19 : decode cX9_price 19 = .ok (.ifCond .eq 15, 3) := by decide +kernel
theorem dX9_price_22 : decode cX9_price 22 = .ok (.iload 4, 2) := by decide +kernel
theorem dX9_price_24 : decode cX9_price 24 = .ok (.ifCond .lt 10, 3) := by decide +kernel
theorem dX9_price_27 : decode cX9_price 27 = .ok (.iload 4, 2) := by decide +kernel
theorem dX9_price_29 : decode cX9_price 29 = .ok (.ldc 216, 2) := by decide +kernel
theorem dX9_price_31 : decode cX9_price 31 = .ok (.if_icmp .le 5, 3) := by decide +kernel
theorem dX9_price_34 : decode cX9_price 34 = .ok (.iconst 0, 1) := by decide +kernel
theorem dX9_price_35 : decode cX9_price 35 = .ok (.ireturn, 1) := by decide +kernel
theorem dX9_price_36 : decode cX9_price 36 = .ok (.iload_n 2, 1) := by decide +kernel
theorem dX9_price_37 : decode cX9_price 37 = .ok (.istore 5, 2) := by decide +kernel
theorem dX9_price_39 : decode cX9_price 39 = .ok (.iload 5, 2) := by decide +kernel
theorem dX9_price_41 : decode cX9_price 41 = .ok (.iload_n 3, 1) := by decide +kernel
theorem dX9_price_42 : decode cX9_price 42 = .ok (.if_icmp .ge 23, 3) := by decide +kernel
theorem dX9_price_45 : decode cX9_price 45 = .ok (.aload_n 0, 1) := by decide +kernel
theorem dX9_price_46 : decode cX9_price 46 = .ok (.getfield 82, 3) := by decide +kernel
theorem dX9_price_49 : decode cX9_price 49 = .ok (.bipush 60, 2) := by decide +kernel
theorem dX9_price_51 : decode cX9_price 51 = .ok (.iload_n 1, 1) := by decide +kernel
theorem dX9_price_52 : decode cX9_price 52 = .ok (.imul, 1) := by decide +kernel
theorem dX9_price_53 : decode cX9_price 53 = .ok (.iload 5, 2) := by decide +kernel
theorem dX9_price_55 : decode cX9_price 55 = .ok (.iadd, 1) := by decide +kernel
theorem dX9_price_56 : decode cX9_price 56 = .ok (.iload 4, 2) := by decide +kernel
theorem dX9_price_58 : decode cX9_price 58 = .ok (.iastore, 1) := by decide +kernel
theorem dX9_price_59 : decode cX9_price 59 = .ok (.iinc 5 1, 3) := by decide +kernel
theorem dX9_price_62 : decode cX9_price 62 = .ok (.goto (-23), 3) := by decide +kernel
theorem dX9_price_65 : decode cX9_price 65 = .ok (.iconst 1, 1) := by decide +kernel
theorem dX9_price_66 : decode cX9_price 66 = .ok (.ireturn, 1) := by decide +kernel
theorem dX9_rule_0 : decode cX9_rule 0 = .ok (.aload_n 0, 1) := by decide +kernel
theorem dX9_rule_1 : decode cX9_rule 1 = .ok (.iconst 0, 1) := by decide +kernel
theorem dX9_rule_2 : decode cX9_rule 2 = .ok (.putfield 1, 3) := by decide +kernel
theorem dX9_rule_5 : decode cX9_rule 5 = .ok (.iload_n 1, 1) := by decide +kernel
theorem dX9_rule_6 : decode cX9_rule 6 = .ok (.iconst 2, 1) := by decide +kernel
theorem dX9_rule_7 : decode cX9_rule 7 = .ok (.if_icmp .ne 21, 3) := by decide +kernel
theorem dX9_rule_10 : decode cX9_rule 10 = .ok (.iload_n 2, 1) := by decide +kernel
theorem dX9_rule_11 : decode cX9_rule 11 = .ok (.ifCond .lt 13, 3) := by decide +kernel
theorem dX9_rule_14 : decode cX9_rule 14 = .ok (.iload_n 2, 1) := by decide +kernel
theorem dX9_rule_15 : decode cX9_rule 15 = .ok (.bipush 58, 2) := by decide +kernel
theorem dX9_rule_17 : decode cX9_rule 17 = .ok (.if_icmp .gt 7, 3) := by decide +kernel
theorem dX9_rule_20 : decode cX9_rule 20 = .ok (.iconst 1, 1) := by decide +kernel
theorem dX9_rule_21 : decode cX9_rule 21 = .ok (.goto 36, 3) := by decide +kernel
theorem dX9_rule_24 : decode cX9_rule 24 = .ok (.iconst 0, 1) := by decide +kernel
theorem dX9_rule_25 : decode cX9_rule 25 = .ok (.goto 32, 3) := by decide +kernel
theorem dX9_rule_28 : decode cX9_rule 28 = .ok (.iload_n 2, 1) := by decide +kernel
theorem dX9_rule_29 : decode cX9_rule 29 = .ok (.iconst 1, 1) := by decide +kernel
theorem dX9_rule_30 : decode cX9_rule 30 = .ok (.if_icmp .lt 26, 3) := by decide +kernel
theorem dX9_rule_33 : decode cX9_rule 33 = .ok (.iload_n 2, 1) := by decide +kernel
theorem dX9_rule_34 : decode cX9_rule 34 = .ok (.bipush 60, 2) := by decide +kernel
theorem dX9_rule_36 : decode cX9_rule 36 = .ok (.if_icmp .gt 20, 3) := by decide +kernel
theorem dX9_rule_39 : decode cX9_rule 39 = .ok (.iload_n 3, 1) := by decide +kernel
theorem dX9_rule_40 : decode cX9_rule 40 = .ok (.bipush (-100), 2) := by decide +kernel
theorem dX9_rule_42 : decode cX9_rule 42 = .ok (.if_icmp .lt 14, 3) := by decide +kernel
theorem dX9_rule_45 : decode cX9_rule 45 = .ok (.iload_n 3, 1) := by decide +kernel
theorem dX9_rule_46 : decode cX9_rule 46 = .ok (.sipush 300, 3) := by decide +kernel
theorem dX9_rule_49 : decode cX9_rule 49 = .ok (.if_icmp .gt 7, 3) := by decide +kernel
theorem dX9_rule_52 : decode cX9_rule 52 = .ok (.iconst 1, 1) := by decide +kernel
theorem dX9_rule_53 : decode cX9_rule 53 = .ok (.goto 4, 3) := by decide +kernel
theorem dX9_rule_56 : decode cX9_rule 56 = .ok (.iconst 0, 1) := by decide +kernel
theorem dX9_rule_57 : decode cX9_rule 57 = .ok (.istore 4, 2) := by decide +kernel
theorem dX9_rule_59 : decode cX9_rule 59 = .ok (.aload_n 0, 1) := by decide +kernel
theorem dX9_rule_60 : decode cX9_rule 60 = .ok (.getfield 166, 3) := by decide +kernel
theorem dX9_rule_63 : decode cX9_rule 63 = .ok (.bipush 8, 2) := by decide +kernel
theorem dX9_rule_65 : decode cX9_rule 65 = .ok (.if_icmp .eq 17, 3) := by decide +kernel
theorem dX9_rule_68 : decode cX9_rule 68 = .ok (.iload_n 1, 1) := by decide +kernel
theorem dX9_rule_69 : decode cX9_rule 69 = .ok (.ifCond .lt 13, 3) := by decide +kernel
theorem dX9_rule_72 : decode cX9_rule 72 = .ok (.iload_n 1, 1) := by decide +kernel
theorem dX9_rule_73 : decode cX9_rule 73 = .ok (.iconst 2, 1) := by decide +kernel
theorem dX9_rule_74 : decode cX9_rule 74 = .ok (.if_icmp .gt 8, 3) := by decide +kernel
theorem dX9_rule_77 : decode cX9_rule 77 = .ok (.iload 4, 2) := by decide +kernel
theorem dX9_rule_79 : decode cX9_rule 79 = .ok (.ifCond .ne 5, 3) := by decide +kernel
theorem dX9_rule_82 : decode cX9_rule 82 = .ok (.iconst (-1), 1) := by decide +kernel
theorem dX9_rule_83 : decode cX9_rule 83 = .ok (.ireturn, 1) := by decide +kernel
theorem dX9_rule_84 : decode cX9_rule 84 = .ok (.aload_n 0, 1) := by decide +kernel
theorem dX9_rule_85 : decode cX9_rule 85 = .ok (.getfield 85, 3) := by decide +kernel
theorem dX9_rule_88 : decode cX9_rule 88 = .ok (.aload_n 0, 1) := by decide +kernel
theorem dX9_rule_89 : decode cX9_rule 89 = .ok (.getfield 166, 3) := by decide +kernel
theorem dX9_rule_92 : decode cX9_rule 92 = .ok (.iload_n 1, 1) := by decide +kernel
theorem dX9_rule_93 : decode cX9_rule 93 = .ok (.iastore, 1) := by decide +kernel
theorem dX9_rule_94 : decode cX9_rule 94 = .ok (.aload_n 0, 1) := by decide +kernel
theorem dX9_rule_95 : decode cX9_rule 95 = .ok (.getfield 88, 3) := by decide +kernel
theorem dX9_rule_98 : decode cX9_rule 98 = .ok (.aload_n 0, 1) := by decide +kernel
theorem dX9_rule_99 : decode cX9_rule 99 = .ok (.getfield 166, 3) := by decide +kernel
theorem dX9_rule_102 : decode cX9_rule 102 = .ok (.iload_n 2, 1) := by decide +kernel
theorem dX9_rule_103 : decode cX9_rule 103 = .ok (.iastore, 1) := by decide +kernel
theorem dX9_rule_104 : decode cX9_rule 104 = .ok (.aload_n 0, 1) := by decide +kernel
theorem dX9_rule_105 : decode cX9_rule 105 = .ok (.getfield 91, 3) := by decide +kernel
theorem dX9_rule_108 : decode cX9_rule 108 = .ok (.aload_n 0, 1) := by decide +kernel
theorem dX9_rule_109 : decode cX9_rule 109 = .ok (.getfield 166, 3) := by decide +kernel
theorem dX9_rule_112 : decode cX9_rule 112 = .ok (.iload_n 3, 1) := by decide +kernel
theorem dX9_rule_113 : decode cX9_rule 113 = .ok (.iastore, 1) := by decide +kernel
theorem dX9_rule_114 : decode cX9_rule 114 = .ok (.aload_n 0, 1) := by decide +kernel
theorem dX9_rule_115 : decode cX9_rule 115 = .ok (.getfield 94, 3) := by decide +kernel
theorem dX9_rule_118 : decode cX9_rule 118 = .ok (.aload_n 0, 1) := by decide +kernel
theorem dX9_rule_119 : decode cX9_rule 119 = .ok (.getfield 166, 3) := by decide +kernel
theorem dX9_rule_122 : decode cX9_rule 122 = .ok (.iconst 1, 1) := by decide +kernel
theorem dX9_rule_123 : decode cX9_rule 123 = .ok (.bastore, 1) := by decide +kernel
theorem dX9_rule_124 : decode cX9_rule 124 = .ok (.aload_n 0, 1) := by decide +kernel
theorem dX9_rule_125 : decode cX9_rule 125 = .ok (.dup, 1) := by decide +kernel
theorem dX9_rule_126 : decode cX9_rule 126 = .ok (.getfield 166, 3) := by decide +kernel
theorem dX9_rule_129 : decode cX9_rule 129 = .ok (.iconst 1, 1) := by decide +kernel
theorem dX9_rule_130 : decode cX9_rule 130 = .ok (.iadd, 1) := by decide +kernel
theorem dX9_rule_131 : decode cX9_rule 131 = .ok (.putfield 166, 3) := by decide +kernel
theorem dX9_rule_134 : decode cX9_rule 134 = .ok (.aload_n 0, 1) := by decide +kernel
theorem dX9_rule_135 : decode cX9_rule 135 = .ok (.getfield 166, 3) := by decide +kernel
theorem dX9_rule_138 : decode cX9_rule 138 = .ok (.iconst 1, 1) := by decide +kernel
theorem dX9_rule_139 : decode cX9_rule 139 = .ok (.isub, 1) := by decide +kernel
theorem dX9_rule_140 : decode cX9_rule 140 = .ok (.ireturn, 1) := by decide +kernel
theorem dX9_drop_0 : decode cX9_drop 0 = .ok (.aload_n 0, 1) := by decide +kernel
theorem dX9_drop_1 : decode cX9_drop 1 = .ok (.iconst 0, 1) := by decide +kernel
theorem dX9_drop_2 : decode cX9_drop 2 = .ok (.putfield 1, 3) := by decide +kernel
theorem dX9_drop_5 : decode cX9_drop 5 = .ok (.iload_n 1, 1) := by decide +kernel
theorem dX9_drop_6 : decode cX9_drop 6 = .ok (.ifCond .lt 20, 3) := by decide +kernel
theorem dX9_drop_9 : decode cX9_drop 9 = .ok (.iload_n 1, 1) := by decide +kernel
theorem dX9_drop_10 : decode cX9_drop 10 = .ok (.aload_n 0, 1) := by decide +kernel
theorem dX9_drop_11 : decode cX9_drop 11 = .ok (.getfield 166, 3) := by decide +kernel
theorem dX9_drop_14 : decode cX9_drop 14 = .ok (.if_icmp .ge 12, 3) := by decide +kernel
theorem dX9_drop_17 : decode cX9_drop 17 = .ok (.aload_n 0, 1) := by decide +kernel
theorem dX9_drop_18 : decode cX9_drop 18 = .ok (.getfield 94, 3) := by decide +kernel
theorem dX9_drop_21 : decode cX9_drop 21 = .ok (.iload_n 1, 1) := by decide +kernel
theorem dX9_drop_22 : decode cX9_drop 22 = .ok (.baload, 1) := by decide +kernel
theorem dX9_drop_23 : decode cX9_drop 23 = .ok (.ifCond .ne 5, 3) := by decide +kernel
theorem dX9_drop_26 : decode cX9_drop 26 = .ok (.iconst 0, 1) := by decide +kernel
theorem dX9_drop_27 : decode cX9_drop 27 = .ok (.ireturn, 1) := by decide +kernel
theorem dX9_drop_28 : decode cX9_drop 28 = .ok (.aload_n 0, 1) := by decide +kernel
theorem dX9_drop_29 : decode cX9_drop 29 = .ok (.getfield 94, 3) := by decide +kernel
theorem dX9_drop_32 : decode cX9_drop 32 = .ok (.iload_n 1, 1) := by decide +kernel
theorem dX9_drop_33 : decode cX9_drop 33 = .ok (.iconst 0, 1) := by decide +kernel
theorem dX9_drop_34 : decode cX9_drop 34 = .ok (.bastore, 1) := by decide +kernel
theorem dX9_drop_35 : decode cX9_drop 35 = .ok (.iconst 1, 1) := by decide +kernel
theorem dX9_drop_36 : decode cX9_drop 36 = .ok (.ireturn, 1) := by decide +kernel
theorem dX9_cost_0 : decode cX9_cost 0 = .ok (.aload_n 0, 1) := by decide +kernel
theorem dX9_cost_1 : decode cX9_cost 1 = .ok (.iconst 0, 1) := by decide +kernel
theorem dX9_cost_2 : decode cX9_cost 2 = .ok (.putfield 1, 3) := by decide +kernel
theorem dX9_cost_5 : decode cX9_cost 5 = .ok (.aload_n 0, 1) := by decide +kernel
theorem dX9_cost_6 : decode cX9_cost 6 = .ok (.iload_n 1, 1) := by decide +kernel
theorem dX9_cost_7 : decode cX9_cost 7 = .ok (.iload_n 2, 1) := by decide +kernel
theorem dX9_cost_8 : decode cX9_cost 8 = .ok (.iload_n 3, 1) := by decide +kernel
theorem dX9_cost_9 : decode cX9_cost 9 = .ok (.invokevirtual 175, 3) := by decide +kernel
theorem dX9_cost_12 : decode cX9_cost 12 = .ok (.ifCond .eq 13, 3) := by decide +kernel
theorem dX9_cost_15 : decode cX9_cost 15 = .ok (.aload_n 0, 1) := by decide +kernel
theorem dX9_cost_16 : decode cX9_cost 16 = .ok (.iload_n 1, 1) := by decide +kernel
theorem dX9_cost_17 : decode cX9_cost 17 = .ok (.iload_n 2, 1) := by decide +kernel
theorem dX9_cost_18 : decode cX9_cost 18 = .ok (.iload_n 3, 1) := by decide +kernel
theorem dX9_cost_19 : decode cX9_cost 19 = .ok (.invokevirtual 171, 3) := by decide +kernel
theorem dX9_cost_22 : decode cX9_cost 22 = .ok (.goto 6, 3) := by decide +kernel
theorem dX9_cost_25 : decode cX9_cost 25 = .ok (.ldc2_w 169, 3) := by decide +kernel
theorem dX9_cost_28 : decode cX9_cost 28 = .ok (.lreturn, 1) := by decide +kernel
theorem dX9_least_0 : decode cX9_least 0 = .ok (.aload_n 0, 1) := by decide +kernel
theorem dX9_least_1 : decode cX9_least 1 = .ok (.iconst 0, 1) := by decide +kernel
theorem dX9_least_2 : decode cX9_least 2 = .ok (.putfield 1, 3) := by decide +kernel
theorem dX9_least_5 : decode cX9_least 5 = .ok (.aload_n 0, 1) := by decide +kernel
theorem dX9_least_6 : decode cX9_least 6 = .ok (.iload_n 1, 1) := by decide +kernel
theorem dX9_least_7 : decode cX9_least 7 = .ok (.iload_n 2, 1) := by decide +kernel
theorem dX9_least_8 : decode cX9_least 8 = .ok (.iload_n 3, 1) := by decide +kernel
theorem dX9_least_9 : decode cX9_least 9 = .ok (.invokevirtual 175, 3) := by decide +kernel
theorem dX9_least_12 : decode cX9_least 12 = .ok (.ifCond .eq 14, 3) := by decide +kernel
theorem dX9_least_15 : decode cX9_least 15 = .ok (.iload 4, 2) := by decide +kernel
theorem dX9_least_17 : decode cX9_least 17 = .ok (.ifCond .lt 9, 3) := by decide +kernel
theorem dX9_least_20 : decode cX9_least 20 = .ok (.iload 4, 2) := by decide +kernel
theorem dX9_least_22 : decode cX9_least 22 = .ok (.iconst 1, 1) := by decide +kernel
theorem dX9_least_23 : decode cX9_least 23 = .ok (.if_icmp .le 7, 3) := by decide +kernel
theorem dX9_least_26 : decode cX9_least 26 = .ok (.ldc2_w 169, 3) := by decide +kernel
theorem dX9_least_29 : decode cX9_least 29 = .ok (.lreturn, 1) := by decide +kernel
theorem dX9_least_30 : decode cX9_least 30 = .ok (.aload_n 0, 1) := by decide +kernel
theorem dX9_least_31 : decode cX9_least 31 = .ok (.iload_n 1, 1) := by decide +kernel
theorem dX9_least_32 : decode cX9_least 32 = .ok (.iload_n 2, 1) := by decide +kernel
theorem dX9_least_33 : decode cX9_least 33 = .ok (.iload_n 3, 1) := by decide +kernel
theorem dX9_least_34 : decode cX9_least 34 = .ok (.invokevirtual 182, 3) := by decide +kernel
theorem dX9_least_37 : decode cX9_least 37 = .ok (.aload_n 0, 1) := by decide +kernel
theorem dX9_least_38 : decode cX9_least 38 = .ok (.getfield 97, 3) := by decide +kernel
theorem dX9_least_41 : decode cX9_least 41 = .ok (.iload_n 3, 1) := by decide +kernel
theorem dX9_least_42 : decode cX9_least 42 = .ok (.laload, 1) := by decide +kernel
theorem dX9_least_43 : decode cX9_least 43 = .ok (.ldc2_w 169, 3) := by decide +kernel
theorem dX9_least_46 : decode cX9_least 46 = .ok (.lcmp, 1) := by decide +kernel
theorem dX9_least_47 : decode cX9_least 47 = .ok (.ifCond .ne 9, 3) := by decide +kernel
theorem dX9_least_50 : decode cX9_least 50 = .ok (.ldc2_w 169, 3) := by decide +kernel
theorem dX9_least_53 : decode cX9_least 53 = .ok (.goto 24, 3) := by decide +kernel
theorem dX9_least_56 : decode cX9_least 56 = .ok (.iload 4, 2) := by decide +kernel
theorem dX9_least_58 : decode cX9_least 58 = .ok (.ifCond .ne 12, 3) := by decide +kernel
theorem dX9_least_61 : decode cX9_least 61 = .ok (.aload_n 0, 1) := by decide +kernel
theorem dX9_least_62 : decode cX9_least 62 = .ok (.getfield 97, 3) := by decide +kernel
theorem dX9_least_65 : decode cX9_least 65 = .ok (.iload_n 3, 1) := by decide +kernel
theorem dX9_least_66 : decode cX9_least 66 = .ok (.laload, 1) := by decide +kernel
theorem dX9_least_67 : decode cX9_least 67 = .ok (.goto 10, 3) := by decide +kernel
theorem dX9_least_70 : decode cX9_least 70 = .ok (.aload_n 0, 1) := by decide +kernel
theorem dX9_least_71 : decode cX9_least 71 = .ok (.getfield 100, 3) := by decide +kernel
theorem dX9_least_74 : decode cX9_least 74 = .ok (.iload_n 3, 1) := by decide +kernel
theorem dX9_least_75 : decode cX9_least 75 = .ok (.iaload, 1) := by decide +kernel
theorem dX9_least_76 : decode cX9_least 76 = .ok (.i2l, 1) := by decide +kernel
theorem dX9_least_77 : decode cX9_least 77 = .ok (.lreturn, 1) := by decide +kernel
theorem dX9_count_0 : decode cX9_count 0 = .ok (.aload_n 0, 1) := by decide +kernel
theorem dX9_count_1 : decode cX9_count 1 = .ok (.iconst 0, 1) := by decide +kernel
theorem dX9_count_2 : decode cX9_count 2 = .ok (.putfield 1, 3) := by decide +kernel
theorem dX9_count_5 : decode cX9_count 5 = .ok (.iconst 0, 1) := by decide +kernel
theorem dX9_count_6 : decode cX9_count 6 = .ok (.istore_n 2, 1) := by decide +kernel
theorem dX9_count_7 : decode cX9_count 7 = .ok (.iload_n 1, 1) := by decide +kernel
theorem dX9_count_8 : decode cX9_count 8 = .ok (.tableswitch 207 0 7 #[48, 53, 80, 109, 138, 143, 172, 177], 48) := by decide +kernel
theorem dX9_count_56 : decode cX9_count 56 = .ok (.aload_n 0, 1) := by decide +kernel
theorem dX9_count_57 : decode cX9_count 57 = .ok (.getfield 158, 3) := by decide +kernel
theorem dX9_count_60 : decode cX9_count 60 = .ok (.ireturn, 1) := by decide +kernel
theorem dX9_count_61 : decode cX9_count 61 = .ok (.iconst 0, 1) := by decide +kernel
theorem dX9_count_62 : decode cX9_count 62 = .ok (.istore_n 3, 1) := by decide +kernel
theorem dX9_count_63 : decode cX9_count 63 = .ok (.iload_n 3, 1) := by decide +kernel
theorem dX9_count_64 : decode cX9_count 64 = .ok (.bipush 16, 2) := by decide +kernel
theorem dX9_count_66 : decode cX9_count 66 = .ok (.if_icmp .ge 20, 3) := by decide +kernel
theorem dX9_count_69 : decode cX9_count 69 = .ok (.aload_n 0, 1) := by decide +kernel
theorem dX9_count_70 : decode cX9_count 70 = .ok (.iload_n 3, 1) := by decide +kernel
theorem dX9_count_71 : decode cX9_count 71 = .ok (.invokevirtual 107, 3) := by decide +kernel
theorem dX9_count_74 : decode cX9_count 74 = .ok (.ifCond .eq 6, 3) := by decide +kernel
theorem dX9_count_77 : decode cX9_count 77 = .ok (.iinc 2 1, 3) := by decide +kernel
theorem dX9_count_80 : decode cX9_count 80 = .ok (.iinc 3 1, 3) := by decide +kernel
theorem dX9_count_83 : decode cX9_count 83 = .ok (.goto (-20), 3) := by decide +kernel
theorem dX9_count_86 : decode cX9_count 86 = .ok (.iload_n 2, 1) := by decide +kernel
theorem dX9_count_87 : decode cX9_count 87 = .ok (.ireturn, 1) := by decide +kernel
theorem dX9_count_88 : decode cX9_count 88 = .ok (.iconst 0, 1) := by decide +kernel
theorem dX9_count_89 : decode cX9_count 89 = .ok (.istore_n 3, 1) := by decide +kernel
theorem dX9_count_90 : decode cX9_count 90 = .ok (.iload_n 3, 1) := by decide +kernel
theorem dX9_count_91 : decode cX9_count 91 = .ok (.bipush 16, 2) := by decide +kernel
theorem dX9_count_93 : decode cX9_count 93 = .ok (.if_icmp .ge 22, 3) := by decide +kernel
theorem dX9_count_96 : decode cX9_count 96 = .ok (.aload_n 0, 1) := by decide +kernel
theorem dX9_count_97 : decode cX9_count 97 = .ok (.getfield 13, 3) := by decide +kernel
theorem dX9_count_100 : decode cX9_count 100 = .ok (.iload_n 3, 1) := by decide +kernel
theorem dX9_count_101 : decode cX9_count 101 = .ok (.iaload, 1) := by decide +kernel
theorem dX9_count_102 : decode cX9_count 102 = .ok (.iconst 4, 1) := by decide +kernel
theorem dX9_count_103 : decode cX9_count 103 = .ok (.if_icmp .ne 6, 3) := by decide +kernel
theorem dX9_count_106 : decode cX9_count 106 = .ok (.iinc 2 1, 3) := by decide +kernel
theorem dX9_count_109 : decode cX9_count 109 = .ok (.iinc 3 1, 3) := by decide +kernel
theorem dX9_count_112 : decode cX9_count 112 = .ok (.goto (-22), 3) := by decide +kernel
theorem dX9_count_115 : decode cX9_count 115 = .ok (.iload_n 2, 1) := by decide +kernel
theorem dX9_count_116 : decode cX9_count 116 = .ok (.ireturn, 1) := by decide +kernel
theorem dX9_count_117 : decode cX9_count 117 = .ok (.iconst 0, 1) := by decide +kernel
theorem dX9_count_118 : decode cX9_count 118 = .ok (.istore_n 3, 1) := by decide +kernel
theorem dX9_count_119 : decode cX9_count 119 = .ok (.iload_n 3, 1) := by decide +kernel
theorem dX9_count_120 : decode cX9_count 120 = .ok (.bipush 16, 2) := by decide +kernel
theorem dX9_count_122 : decode cX9_count 122 = .ok (.if_icmp .ge 22, 3) := by decide +kernel
theorem dX9_count_125 : decode cX9_count 125 = .ok (.aload_n 0, 1) := by decide +kernel
theorem dX9_count_126 : decode cX9_count 126 = .ok (.getfield 23, 3) := by decide +kernel
theorem dX9_count_129 : decode cX9_count 129 = .ok (.iload_n 3, 1) := by decide +kernel
theorem dX9_count_130 : decode cX9_count 130 = .ok (.iaload, 1) := by decide +kernel
theorem dX9_count_131 : decode cX9_count 131 = .ok (.iload_n 3, 1) := by decide +kernel
theorem dX9_count_132 : decode cX9_count 132 = .ok (.if_icmp .le 6, 3) := by decide +kernel
theorem dX9_count_135 : decode cX9_count 135 = .ok (.iinc 2 1, 3) := by decide +kernel
theorem dX9_count_138 : decode cX9_count 138 = .ok (.iinc 3 1, 3) := by decide +kernel
theorem dX9_count_141 : decode cX9_count 141 = .ok (.goto (-22), 3) := by decide +kernel
theorem dX9_count_144 : decode cX9_count 144 = .ok (.iload_n 2, 1) := by decide +kernel
theorem dX9_count_145 : decode cX9_count 145 = .ok (.ireturn, 1) := by decide +kernel
theorem dX9_count_146 : decode cX9_count 146 = .ok (.aload_n 0, 1) := by decide +kernel
theorem dX9_count_147 : decode cX9_count 147 = .ok (.getfield 117, 3) := by decide +kernel
theorem dX9_count_150 : decode cX9_count 150 = .ok (.ireturn, 1) := by decide +kernel
theorem dX9_count_151 : decode cX9_count 151 = .ok (.iconst 0, 1) := by decide +kernel
theorem dX9_count_152 : decode cX9_count 152 = .ok (.istore_n 3, 1) := by decide +kernel
theorem dX9_count_153 : decode cX9_count 153 = .ok (.iload_n 3, 1) := by decide +kernel
theorem dX9_count_154 : decode cX9_count 154 = .ok (.aload_n 0, 1) := by decide +kernel
theorem dX9_count_155 : decode cX9_count 155 = .ok (.getfield 117, 3) := by decide +kernel
theorem dX9_count_158 : decode cX9_count 158 = .ok (.if_icmp .ge 20, 3) := by decide +kernel
theorem dX9_count_161 : decode cX9_count 161 = .ok (.aload_n 0, 1) := by decide +kernel
theorem dX9_count_162 : decode cX9_count 162 = .ok (.iload_n 3, 1) := by decide +kernel
theorem dX9_count_163 : decode cX9_count 163 = .ok (.invokevirtual 120, 3) := by decide +kernel
theorem dX9_count_166 : decode cX9_count 166 = .ok (.ifCond .eq 6, 3) := by decide +kernel
theorem dX9_count_169 : decode cX9_count 169 = .ok (.iinc 2 1, 3) := by decide +kernel
theorem dX9_count_172 : decode cX9_count 172 = .ok (.iinc 3 1, 3) := by decide +kernel
theorem dX9_count_175 : decode cX9_count 175 = .ok (.goto (-22), 3) := by decide +kernel
theorem dX9_count_178 : decode cX9_count 178 = .ok (.iload_n 2, 1) := by decide +kernel
theorem dX9_count_179 : decode cX9_count 179 = .ok (.ireturn, 1) := by decide +kernel
theorem dX9_count_180 : decode cX9_count 180 = .ok (.aload_n 0, 1) := by decide +kernel
theorem dX9_count_181 : decode cX9_count 181 = .ok (.getfield 190, 3) := by decide +kernel
theorem dX9_count_184 : decode cX9_count 184 = .ok (.ireturn, 1) := by decide +kernel
theorem dX9_count_185 : decode cX9_count 185 = .ok (.iconst 0, 1) := by decide +kernel
theorem dX9_count_186 : decode cX9_count 186 = .ok (.istore_n 3, 1) := by decide +kernel
theorem dX9_count_187 : decode cX9_count 187 = .ok (.iload_n 3, 1) := by decide +kernel
theorem dX9_count_188 : decode cX9_count 188 = .ok (.aload_n 0, 1) := by decide +kernel
theorem dX9_count_189 : decode cX9_count 189 = .ok (.getfield 166, 3) := by decide +kernel
theorem dX9_count_192 : decode cX9_count 192 = .ok (.if_icmp .ge 21, 3) := by decide +kernel
theorem dX9_count_195 : decode cX9_count 195 = .ok (.aload_n 0, 1) := by decide +kernel
theorem dX9_count_196 : decode cX9_count 196 = .ok (.getfield 94, 3) := by decide +kernel
theorem dX9_count_199 : decode cX9_count 199 = .ok (.iload_n 3, 1) := by decide +kernel
theorem dX9_count_200 : decode cX9_count 200 = .ok (.baload, 1) := by decide +kernel
theorem dX9_count_201 : decode cX9_count 201 = .ok (.ifCond .eq 6, 3) := by decide +kernel
theorem dX9_count_204 : decode cX9_count 204 = .ok (.iinc 2 1, 3) := by decide +kernel
theorem dX9_count_207 : decode cX9_count 207 = .ok (.iinc 3 1, 3) := by decide +kernel
theorem dX9_count_210 : decode cX9_count 210 = .ok (.goto (-23), 3) := by decide +kernel
theorem dX9_count_213 : decode cX9_count 213 = .ok (.iload_n 2, 1) := by decide +kernel
theorem dX9_count_214 : decode cX9_count 214 = .ok (.ireturn, 1) := by decide +kernel
theorem dX9_count_215 : decode cX9_count 215 = .ok (.iconst (-1), 1) := by decide +kernel
theorem dX9_count_216 : decode cX9_count 216 = .ok (.ireturn, 1) := by decide +kernel
