theorem dX11_emitOf_106 : decode cX11_emitOf 106 = .ok (.iadd, 1) := by decide +kernel
theorem dX11_emitOf_107 : decode cX11_emitOf 107 = .ok (.iaload, 1) := by decide +kernel
theorem dX11_emitOf_108 : decode cX11_emitOf 108 = .ok (.ifCond .le 7, 3) := by decide +kernel
theorem dX11_emitOf_111 : decode cX11_emitOf 111 = .ok (.iconst 1, 1) := by decide +kernel
theorem dX11_emitOf_112 : decode cX11_emitOf 112 = .ok (.goto 4, 3) := by decide +kernel
theorem dX11_emitOf_115 : decode cX11_emitOf 115 = .ok (.iconst 0, 1) := by decide +kernel
theorem dX11_emitOf_116 : decode cX11_emitOf 116 = .ok (.istore 4, 2) := by decide +kernel
theorem dX11_emitOf_118 : decode cX11_emitOf 118 = .ok (.aload_n 0, 1) := by decide +kernel
theorem dX11_emitOf_119 : decode cX11_emitOf 119 = .ok (.invokevirtual 377, 3) := by decide +kernel
theorem dX11_emitOf_122 : decode cX11_emitOf 122 = .ok (.aload_n 0, 1) := by decide +kernel
theorem dX11_emitOf_123 : decode cX11_emitOf 123 = .ok (.getfield 360, 3) := by decide +kernel
theorem dX11_emitOf_126 : decode cX11_emitOf 126 = .ok (.ifCond .le 4, 3) := by decide +kernel
theorem dX11_emitOf_129 : decode cX11_emitOf 129 = .ok (.return_, 1) := by decide +kernel
theorem dX11_emitOf_130 : decode cX11_emitOf 130 = .ok (.aload_n 0, 1) := by decide +kernel
theorem dX11_emitOf_131 : decode cX11_emitOf 131 = .ok (.getfield 96, 3) := by decide +kernel
theorem dX11_emitOf_134 : decode cX11_emitOf 134 = .ok (.iload_n 1, 1) := by decide +kernel
theorem dX11_emitOf_135 : decode cX11_emitOf 135 = .ok (.iaload, 1) := by decide +kernel
theorem dX11_emitOf_136 : decode cX11_emitOf 136 = .ok (.iconst 3, 1) := by decide +kernel
theorem dX11_emitOf_137 : decode cX11_emitOf 137 = .ok (.if_icmp .ne 18, 3) := by decide +kernel
theorem dX11_emitOf_140 : decode cX11_emitOf 140 = .ok (.aload_n 0, 1) := by decide +kernel
theorem dX11_emitOf_141 : decode cX11_emitOf 141 = .ok (.iconst 3, 1) := by decide +kernel
theorem dX11_emitOf_142 : decode cX11_emitOf 142 = .ok (.ldc2_w 515, 3) := by decide +kernel
theorem dX11_emitOf_145 : decode cX11_emitOf 145 = .ok (.invokevirtual 373, 3) := by decide +kernel
theorem dX11_emitOf_148 : decode cX11_emitOf 148 = .ok (.ifCond .eq 7, 3) := by decide +kernel
theorem dX11_emitOf_151 : decode cX11_emitOf 151 = .ok (.iconst 1, 1) := by decide +kernel
theorem dX11_emitOf_152 : decode cX11_emitOf 152 = .ok (.goto 4, 3) := by decide +kernel
theorem dX11_emitOf_155 : decode cX11_emitOf 155 = .ok (.iconst 0, 1) := by decide +kernel
theorem dX11_emitOf_156 : decode cX11_emitOf 156 = .ok (.istore 5, 2) := by decide +kernel
theorem dX11_emitOf_158 : decode cX11_emitOf 158 = .ok (.iload 4, 2) := by decide +kernel
theorem dX11_emitOf_160 : decode cX11_emitOf 160 = .ok (.iload 5, 2) := by decide +kernel
theorem dX11_emitOf_162 : decode cX11_emitOf 162 = .ok (.if_icmp .eq 12, 3) := by decide +kernel
theorem dX11_emitOf_165 : decode cX11_emitOf 165 = .ok (.aload_n 0, 1) := by decide +kernel
theorem dX11_emitOf_166 : decode cX11_emitOf 166 = .ok (.iconst 5, 1) := by decide +kernel
theorem dX11_emitOf_167 : decode cX11_emitOf 167 = .ok (.iload_n 3, 1) := by decide +kernel
theorem dX11_emitOf_168 : decode cX11_emitOf 168 = .ok (.invokevirtual 369, 3) := by decide +kernel
theorem dX11_emitOf_171 : decode cX11_emitOf 171 = .ok (.goto 78, 3) := by decide +kernel
theorem dX11_emitOf_174 : decode cX11_emitOf 174 = .ok (.iload 5, 2) := by decide +kernel
theorem dX11_emitOf_176 : decode cX11_emitOf 176 = .ok (.ifCond .eq 30, 3) := by decide +kernel
theorem dX11_emitOf_179 : decode cX11_emitOf 179 = .ok (.aload_n 0, 1) := by decide +kernel
theorem dX11_emitOf_180 : decode cX11_emitOf 180 = .ok (.getfield 486, 3) := by decide +kernel
theorem dX11_emitOf_183 : decode cX11_emitOf 183 = .ok (.bipush 15, 2) := by decide +kernel
theorem dX11_emitOf_185 : decode cX11_emitOf 185 = .ok (.if_icmp .ne 21, 3) := by decide +kernel
theorem dX11_emitOf_188 : decode cX11_emitOf 188 = .ok (.aload_n 0, 1) := by decide +kernel
theorem dX11_emitOf_189 : decode cX11_emitOf 189 = .ok (.bipush 6, 2) := by decide +kernel
theorem dX11_emitOf_191 : decode cX11_emitOf 191 = .ok (.aload_n 0, 1) := by decide +kernel
theorem dX11_emitOf_192 : decode cX11_emitOf 192 = .ok (.getfield 16, 3) := by decide +kernel
theorem dX11_emitOf_195 : decode cX11_emitOf 195 = .ok (.aload_n 0, 1) := by decide +kernel
theorem dX11_emitOf_196 : decode cX11_emitOf 196 = .ok (.getfield 366, 3) := by decide +kernel
theorem dX11_emitOf_199 : decode cX11_emitOf 199 = .ok (.iaload, 1) := by decide +kernel
theorem dX11_emitOf_200 : decode cX11_emitOf 200 = .ok (.invokevirtual 369, 3) := by decide +kernel
theorem dX11_emitOf_203 : decode cX11_emitOf 203 = .ok (.goto 46, 3) := by decide +kernel
theorem dX11_emitOf_206 : decode cX11_emitOf 206 = .ok (.iload 5, 2) := by decide +kernel
theorem dX11_emitOf_208 : decode cX11_emitOf 208 = .ok (.ifCond .eq 41, 3) := by decide +kernel
theorem dX11_emitOf_211 : decode cX11_emitOf 211 = .ok (.aload_n 0, 1) := by decide +kernel
theorem dX11_emitOf_212 : decode cX11_emitOf 212 = .ok (.dup, 1) := by decide +kernel
theorem dX11_emitOf_213 : decode cX11_emitOf 213 = .ok (.getfield 486, 3) := by decide +kernel
theorem dX11_emitOf_216 : decode cX11_emitOf 216 = .ok (.iconst 1, 1) := by decide +kernel
theorem dX11_emitOf_217 : decode cX11_emitOf 217 = .ok (.iadd, 1) := by decide +kernel
theorem dX11_emitOf_218 : decode cX11_emitOf 218 = .ok (.putfield 486, 3) := by decide +kernel
theorem dX11_emitOf_221 : decode cX11_emitOf 221 = .ok (.aload_n 0, 1) := by decide +kernel
theorem dX11_emitOf_222 : decode cX11_emitOf 222 = .ok (.invokevirtual 377, 3) := by decide +kernel
theorem dX11_emitOf_225 : decode cX11_emitOf 225 = .ok (.aload_n 0, 1) := by decide +kernel
theorem dX11_emitOf_226 : decode cX11_emitOf 226 = .ok (.iload_n 1, 1) := by decide +kernel
theorem dX11_emitOf_227 : decode cX11_emitOf 227 = .ok (.iconst 0, 1) := by decide +kernel
theorem dX11_emitOf_228 : decode cX11_emitOf 228 = .ok (.invokevirtual 588, 3) := by decide +kernel
theorem dX11_emitOf_231 : decode cX11_emitOf 231 = .ok (.aload_n 0, 1) := by decide +kernel
theorem dX11_emitOf_232 : decode cX11_emitOf 232 = .ok (.iconst 3, 1) := by decide +kernel
theorem dX11_emitOf_233 : decode cX11_emitOf 233 = .ok (.ldc2_w 524, 3) := by decide +kernel
theorem dX11_emitOf_236 : decode cX11_emitOf 236 = .ok (.invokevirtual 464, 3) := by decide +kernel
theorem dX11_emitOf_239 : decode cX11_emitOf 239 = .ok (.aload_n 0, 1) := by decide +kernel
theorem dX11_emitOf_240 : decode cX11_emitOf 240 = .ok (.dup, 1) := by decide +kernel
theorem dX11_emitOf_241 : decode cX11_emitOf 241 = .ok (.getfield 486, 3) := by decide +kernel
theorem dX11_emitOf_244 : decode cX11_emitOf 244 = .ok (.iconst 1, 1) := by decide +kernel
theorem dX11_emitOf_245 : decode cX11_emitOf 245 = .ok (.isub, 1) := by decide +kernel
theorem dX11_emitOf_246 : decode cX11_emitOf 246 = .ok (.putfield 486, 3) := by decide +kernel
theorem dX11_emitOf_249 : decode cX11_emitOf 249 = .ok (.return_, 1) := by decide +kernel
theorem dX11_isOpenTrap_0 : decode cX11_isOpenTrap 0 = .ok (.aload_n 0, 1) := by decide +kernel
theorem dX11_isOpenTrap_1 : decode cX11_isOpenTrap 1 = .ok (.lload_n 1, 1) := by decide +kernel
theorem dX11_isOpenTrap_2 : decode cX11_isOpenTrap 2 = .ok (.invokevirtual 592, 3) := by decide +kernel
theorem dX11_isOpenTrap_5 : decode cX11_isOpenTrap 5 = .ok (.iconst (-1), 1) := by decide +kernel
theorem dX11_isOpenTrap_6 : decode cX11_isOpenTrap 6 = .ok (.if_icmp .eq 7, 3) := by decide +kernel
theorem dX11_isOpenTrap_9 : decode cX11_isOpenTrap 9 = .ok (.iconst 1, 1) := by decide +kernel
theorem dX11_isOpenTrap_10 : decode cX11_isOpenTrap 10 = .ok (.goto 4, 3) := by decide +kernel
theorem dX11_isOpenTrap_13 : decode cX11_isOpenTrap 13 = .ok (.iconst 0, 1) := by decide +kernel
theorem dX11_isOpenTrap_14 : decode cX11_isOpenTrap 14 = .ok (.ireturn, 1) := by decide +kernel
theorem dX11_trapNamed_0 : decode cX11_trapNamed 0 = .ok (.aload_n 0, 1) := by decide +kernel
theorem dX11_trapNamed_1 : decode cX11_trapNamed 1 = .ok (.getfield 576, 3) := by decide +kernel
theorem dX11_trapNamed_4 : decode cX11_trapNamed 4 = .ok (.iconst 1, 1) := by decide +kernel
theorem dX11_trapNamed_5 : decode cX11_trapNamed 5 = .ok (.isub, 1) := by decide +kernel
theorem dX11_trapNamed_6 : decode cX11_trapNamed 6 = .ok (.istore_n 3, 1) := by decide +kernel
theorem dX11_trapNamed_7 : decode cX11_trapNamed 7 = .ok (.iload_n 3, 1) := by decide +kernel
theorem dX11_trapNamed_8 : decode cX11_trapNamed 8 = .ok (.ifCond .lt 48, 3) := by decide +kernel
theorem dX11_trapNamed_11 : decode cX11_trapNamed 11 = .ok (.aload_n 0, 1) := by decide +kernel
theorem dX11_trapNamed_12 : decode cX11_trapNamed 12 = .ok (.getfield 96, 3) := by decide +kernel
theorem dX11_trapNamed_15 : decode cX11_trapNamed 15 = .ok (.aload_n 0, 1) := by decide +kernel
theorem dX11_trapNamed_16 : decode cX11_trapNamed 16 = .ok (.getfield 150, 3) := by decide +kernel
theorem dX11_trapNamed_19 : decode cX11_trapNamed 19 = .ok (.iload_n 3, 1) := by decide +kernel
theorem dX11_trapNamed_20 : decode cX11_trapNamed 20 = .ok (.iaload, 1) := by decide +kernel
theorem dX11_trapNamed_21 : decode cX11_trapNamed 21 = .ok (.iaload, 1) := by decide +kernel
theorem dX11_trapNamed_22 : decode cX11_trapNamed 22 = .ok (.bipush 12, 2) := by decide +kernel
theorem dX11_trapNamed_24 : decode cX11_trapNamed 24 = .ok (.if_icmp .ne 26, 3) := by decide +kernel
theorem dX11_trapNamed_27 : decode cX11_trapNamed 27 = .ok (.aload_n 0, 1) := by decide +kernel
theorem dX11_trapNamed_28 : decode cX11_trapNamed 28 = .ok (.getfield 138, 3) := by decide +kernel
theorem dX11_trapNamed_31 : decode cX11_trapNamed 31 = .ok (.aload_n 0, 1) := by decide +kernel
theorem dX11_trapNamed_32 : decode cX11_trapNamed 32 = .ok (.getfield 150, 3) := by decide +kernel
theorem dX11_trapNamed_35 : decode cX11_trapNamed 35 = .ok (.iload_n 3, 1) := by decide +kernel
theorem dX11_trapNamed_36 : decode cX11_trapNamed 36 = .ok (.iaload, 1) := by decide +kernel
theorem dX11_trapNamed_37 : decode cX11_trapNamed 37 = .ok (.laload, 1) := by decide +kernel
theorem dX11_trapNamed_38 : decode cX11_trapNamed 38 = .ok (.lload_n 1, 1) := by decide +kernel
theorem dX11_trapNamed_39 : decode cX11_trapNamed 39 = .ok (.lcmp, 1) := by decide +kernel
theorem dX11_trapNamed_40 : decode cX11_trapNamed 40 = .ok (.ifCond .ne 10, 3) := by decide +kernel
theorem dX11_trapNamed_43 : decode cX11_trapNamed 43 = .ok (.aload_n 0, 1) := by decide +kernel
theorem dX11_trapNamed_44 : decode cX11_trapNamed 44 = .ok (.getfield 150, 3) := by decide +kernel
theorem dX11_trapNamed_47 : decode cX11_trapNamed 47 = .ok (.iload_n 3, 1) := by decide +kernel
theorem dX11_trapNamed_48 : decode cX11_trapNamed 48 = .ok (.iaload, 1) := by decide +kernel
theorem dX11_trapNamed_49 : decode cX11_trapNamed 49 = .ok (.ireturn, 1) := by decide +kernel
theorem dX11_trapNamed_50 : decode cX11_trapNamed 50 = .ok (.iinc 3 (-1), 3) := by decide +kernel
theorem dX11_trapNamed_53 : decode cX11_trapNamed 53 = .ok (.goto (-46), 3) := by decide +kernel
theorem dX11_trapNamed_56 : decode cX11_trapNamed 56 = .ok (.iconst (-1), 1) := by decide +kernel
theorem dX11_trapNamed_57 : decode cX11_trapNamed 57 = .ok (.ireturn, 1) := by decide +kernel
theorem dX11_trapOf_0 : decode cX11_trapOf 0 = .ok (.aload_n 0, 1) := by decide +kernel
theorem dX11_trapOf_1 : decode cX11_trapOf 1 = .ok (.invokevirtual 468, 3) := by decide +kernel
theorem dX11_trapOf_4 : decode cX11_trapOf 4 = .ok (.ifCond .ne 20, 3) := by decide +kernel
theorem dX11_trapOf_7 : decode cX11_trapOf 7 = .ok (.aload_n 0, 1) := by decide +kernel
theorem dX11_trapOf_8 : decode cX11_trapOf 8 = .ok (.iconst 2, 1) := by decide +kernel
theorem dX11_trapOf_9 : decode cX11_trapOf 9 = .ok (.aload_n 0, 1) := by decide +kernel
theorem dX11_trapOf_10 : decode cX11_trapOf 10 = .ok (.getfield 16, 3) := by decide +kernel
theorem dX11_trapOf_13 : decode cX11_trapOf 13 = .ok (.aload_n 0, 1) := by decide +kernel
theorem dX11_trapOf_14 : decode cX11_trapOf 14 = .ok (.getfield 366, 3) := by decide +kernel
theorem dX11_trapOf_17 : decode cX11_trapOf 17 = .ok (.iaload, 1) := by decide +kernel
theorem dX11_trapOf_18 : decode cX11_trapOf 18 = .ok (.invokevirtual 369, 3) := by decide +kernel
theorem dX11_trapOf_21 : decode cX11_trapOf 21 = .ok (.goto 97, 3) := by decide +kernel
theorem dX11_trapOf_24 : decode cX11_trapOf 24 = .ok (.aload_n 0, 1) := by decide +kernel
theorem dX11_trapOf_25 : decode cX11_trapOf 25 = .ok (.aload_n 0, 1) := by decide +kernel
theorem dX11_trapOf_26 : decode cX11_trapOf 26 = .ok (.getfield 19, 3) := by decide +kernel
theorem dX11_trapOf_29 : decode cX11_trapOf 29 = .ok (.aload_n 0, 1) := by decide +kernel
theorem dX11_trapOf_30 : decode cX11_trapOf 30 = .ok (.getfield 366, 3) := by decide +kernel
theorem dX11_trapOf_33 : decode cX11_trapOf 33 = .ok (.laload, 1) := by decide +kernel
theorem dX11_trapOf_34 : decode cX11_trapOf 34 = .ok (.invokevirtual 471, 3) := by decide +kernel
theorem dX11_trapOf_37 : decode cX11_trapOf 37 = .ok (.iconst (-1), 1) := by decide +kernel
theorem dX11_trapOf_38 : decode cX11_trapOf 38 = .ok (.if_icmp .ne 36, 3) := by decide +kernel
theorem dX11_trapOf_41 : decode cX11_trapOf 41 = .ok (.aload_n 0, 1) := by decide +kernel
theorem dX11_trapOf_42 : decode cX11_trapOf 42 = .ok (.aload_n 0, 1) := by decide +kernel
theorem dX11_trapOf_43 : decode cX11_trapOf 43 = .ok (.getfield 19, 3) := by decide +kernel
theorem dX11_trapOf_46 : decode cX11_trapOf 46 = .ok (.aload_n 0, 1) := by decide +kernel
theorem dX11_trapOf_47 : decode cX11_trapOf 47 = .ok (.getfield 366, 3) := by decide +kernel
theorem dX11_trapOf_50 : decode cX11_trapOf 50 = .ok (.laload, 1) := by decide +kernel
theorem dX11_trapOf_51 : decode cX11_trapOf 51 = .ok (.invokevirtual 475, 3) := by decide +kernel
theorem dX11_trapOf_54 : decode cX11_trapOf 54 = .ok (.iconst (-1), 1) := by decide +kernel
theorem dX11_trapOf_55 : decode cX11_trapOf 55 = .ok (.if_icmp .ne 19, 3) := by decide +kernel
theorem dX11_trapOf_58 : decode cX11_trapOf 58 = .ok (.aload_n 0, 1) := by decide +kernel
theorem dX11_trapOf_59 : decode cX11_trapOf 59 = .ok (.aload_n 0, 1) := by decide +kernel
theorem dX11_trapOf_60 : decode cX11_trapOf 60 = .ok (.getfield 19, 3) := by decide +kernel
theorem dX11_trapOf_63 : decode cX11_trapOf 63 = .ok (.aload_n 0, 1) := by decide +kernel
theorem dX11_trapOf_64 : decode cX11_trapOf 64 = .ok (.getfield 366, 3) := by decide +kernel
theorem dX11_trapOf_67 : decode cX11_trapOf 67 = .ok (.laload, 1) := by decide +kernel
theorem dX11_trapOf_68 : decode cX11_trapOf 68 = .ok (.invokevirtual 595, 3) := by decide +kernel
theorem dX11_trapOf_71 : decode cX11_trapOf 71 = .ok (.ifCond .eq 20, 3) := by decide +kernel
theorem dX11_trapOf_74 : decode cX11_trapOf 74 = .ok (.aload_n 0, 1) := by decide +kernel
theorem dX11_trapOf_75 : decode cX11_trapOf 75 = .ok (.iconst 3, 1) := by decide +kernel
theorem dX11_trapOf_76 : decode cX11_trapOf 76 = .ok (.aload_n 0, 1) := by decide +kernel
theorem dX11_trapOf_77 : decode cX11_trapOf 77 = .ok (.getfield 16, 3) := by decide +kernel
theorem dX11_trapOf_80 : decode cX11_trapOf 80 = .ok (.aload_n 0, 1) := by decide +kernel
theorem dX11_trapOf_81 : decode cX11_trapOf 81 = .ok (.getfield 366, 3) := by decide +kernel
theorem dX11_trapOf_84 : decode cX11_trapOf 84 = .ok (.iaload, 1) := by decide +kernel
theorem dX11_trapOf_85 : decode cX11_trapOf 85 = .ok (.invokevirtual 369, 3) := by decide +kernel
theorem dX11_trapOf_88 : decode cX11_trapOf 88 = .ok (.goto 30, 3) := by decide +kernel
theorem dX11_trapOf_91 : decode cX11_trapOf 91 = .ok (.aload_n 0, 1) := by decide +kernel
theorem dX11_trapOf_92 : decode cX11_trapOf 92 = .ok (.getfield 138, 3) := by decide +kernel
theorem dX11_trapOf_95 : decode cX11_trapOf 95 = .ok (.iload_n 1, 1) := by decide +kernel
theorem dX11_trapOf_96 : decode cX11_trapOf 96 = .ok (.aload_n 0, 1) := by decide +kernel
theorem dX11_trapOf_97 : decode cX11_trapOf 97 = .ok (.getfield 19, 3) := by decide +kernel
theorem dX11_trapOf_100 : decode cX11_trapOf 100 = .ok (.aload_n 0, 1) := by decide +kernel
theorem dX11_trapOf_101 : decode cX11_trapOf 101 = .ok (.getfield 366, 3) := by decide +kernel
theorem dX11_trapOf_104 : decode cX11_trapOf 104 = .ok (.laload, 1) := by decide +kernel
theorem dX11_trapOf_105 : decode cX11_trapOf 105 = .ok (.lastore, 1) := by decide +kernel
theorem dX11_trapOf_106 : decode cX11_trapOf 106 = .ok (.aload_n 0, 1) := by decide +kernel
theorem dX11_trapOf_107 : decode cX11_trapOf 107 = .ok (.invokevirtual 377, 3) := by decide +kernel
theorem dX11_trapOf_110 : decode cX11_trapOf 110 = .ok (.aload_n 0, 1) := by decide +kernel
theorem dX11_trapOf_111 : decode cX11_trapOf 111 = .ok (.iconst 1, 1) := by decide +kernel
theorem dX11_trapOf_112 : decode cX11_trapOf 112 = .ok (.ldc2_w 436, 3) := by decide +kernel
theorem dX11_trapOf_115 : decode cX11_trapOf 115 = .ok (.invokevirtual 464, 3) := by decide +kernel
theorem dX11_trapOf_118 : decode cX11_trapOf 118 = .ok (.return_, 1) := by decide +kernel
theorem dX11_exitOf_0 : decode cX11_exitOf 0 = .ok (.aload_n 0, 1) := by decide +kernel
theorem dX11_exitOf_1 : decode cX11_exitOf 1 = .ok (.invokevirtual 468, 3) := by decide +kernel
theorem dX11_exitOf_4 : decode cX11_exitOf 4 = .ok (.ifCond .ne 20, 3) := by decide +kernel
theorem dX11_exitOf_7 : decode cX11_exitOf 7 = .ok (.aload_n 0, 1) := by decide +kernel
theorem dX11_exitOf_8 : decode cX11_exitOf 8 = .ok (.iconst 2, 1) := by decide +kernel
theorem dX11_exitOf_9 : decode cX11_exitOf 9 = .ok (.aload_n 0, 1) := by decide +kernel
theorem dX11_exitOf_10 : decode cX11_exitOf 10 = .ok (.getfield 16, 3) := by decide +kernel
theorem dX11_exitOf_13 : decode cX11_exitOf 13 = .ok (.aload_n 0, 1) := by decide +kernel
theorem dX11_exitOf_14 : decode cX11_exitOf 14 = .ok (.getfield 366, 3) := by decide +kernel
theorem dX11_exitOf_17 : decode cX11_exitOf 17 = .ok (.iaload, 1) := by decide +kernel
theorem dX11_exitOf_18 : decode cX11_exitOf 18 = .ok (.invokevirtual 369, 3) := by decide +kernel
theorem dX11_exitOf_21 : decode cX11_exitOf 21 = .ok (.goto 60, 3) := by decide +kernel
theorem dX11_exitOf_24 : decode cX11_exitOf 24 = .ok (.aload_n 0, 1) := by decide +kernel
theorem dX11_exitOf_25 : decode cX11_exitOf 25 = .ok (.aload_n 0, 1) := by decide +kernel
theorem dX11_exitOf_26 : decode cX11_exitOf 26 = .ok (.getfield 19, 3) := by decide +kernel
theorem dX11_exitOf_29 : decode cX11_exitOf 29 = .ok (.aload_n 0, 1) := by decide +kernel
theorem dX11_exitOf_30 : decode cX11_exitOf 30 = .ok (.getfield 366, 3) := by decide +kernel
theorem dX11_exitOf_33 : decode cX11_exitOf 33 = .ok (.laload, 1) := by decide +kernel
theorem dX11_exitOf_34 : decode cX11_exitOf 34 = .ok (.invokevirtual 592, 3) := by decide +kernel
theorem dX11_exitOf_37 : decode cX11_exitOf 37 = .ok (.iconst (-1), 1) := by decide +kernel
theorem dX11_exitOf_38 : decode cX11_exitOf 38 = .ok (.if_icmp .ne 20, 3) := by decide +kernel
theorem dX11_exitOf_41 : decode cX11_exitOf 41 = .ok (.aload_n 0, 1) := by decide +kernel
theorem dX11_exitOf_42 : decode cX11_exitOf 42 = .ok (.iconst 4, 1) := by decide +kernel
theorem dX11_exitOf_43 : decode cX11_exitOf 43 = .ok (.aload_n 0, 1) := by decide +kernel
theorem dX11_exitOf_44 : decode cX11_exitOf 44 = .ok (.getfield 16, 3) := by decide +kernel
theorem dX11_exitOf_47 : decode cX11_exitOf 47 = .ok (.aload_n 0, 1) := by decide +kernel
theorem dX11_exitOf_48 : decode cX11_exitOf 48 = .ok (.getfield 366, 3) := by decide +kernel
theorem dX11_exitOf_51 : decode cX11_exitOf 51 = .ok (.iaload, 1) := by decide +kernel
theorem dX11_exitOf_52 : decode cX11_exitOf 52 = .ok (.invokevirtual 369, 3) := by decide +kernel
theorem dX11_exitOf_55 : decode cX11_exitOf 55 = .ok (.goto 26, 3) := by decide +kernel
theorem dX11_exitOf_58 : decode cX11_exitOf 58 = .ok (.aload_n 0, 1) := by decide +kernel
theorem dX11_exitOf_59 : decode cX11_exitOf 59 = .ok (.getfield 102, 3) := by decide +kernel
theorem dX11_exitOf_62 : decode cX11_exitOf 62 = .ok (.iload_n 1, 1) := by decide +kernel
theorem dX11_exitOf_63 : decode cX11_exitOf 63 = .ok (.aload_n 0, 1) := by decide +kernel
theorem dX11_exitOf_64 : decode cX11_exitOf 64 = .ok (.aload_n 0, 1) := by decide +kernel
theorem dX11_exitOf_65 : decode cX11_exitOf 65 = .ok (.getfield 19, 3) := by decide +kernel
theorem dX11_exitOf_68 : decode cX11_exitOf 68 = .ok (.aload_n 0, 1) := by decide +kernel
theorem dX11_exitOf_69 : decode cX11_exitOf 69 = .ok (.getfield 366, 3) := by decide +kernel
theorem dX11_exitOf_72 : decode cX11_exitOf 72 = .ok (.laload, 1) := by decide +kernel
theorem dX11_exitOf_73 : decode cX11_exitOf 73 = .ok (.invokevirtual 592, 3) := by decide +kernel
theorem dX11_exitOf_76 : decode cX11_exitOf 76 = .ok (.iastore, 1) := by decide +kernel
theorem dX11_exitOf_77 : decode cX11_exitOf 77 = .ok (.aload_n 0, 1) := by decide +kernel
theorem dX11_exitOf_78 : decode cX11_exitOf 78 = .ok (.invokevirtual 377, 3) := by decide +kernel
theorem dX11_exitOf_81 : decode cX11_exitOf 81 = .ok (.return_, 1) := by decide +kernel
theorem dX11_relation_0 : decode cX11_relation 0 = .ok (.aload_n 0, 1) := by decide +kernel
theorem dX11_relation_1 : decode cX11_relation 1 = .ok (.getfield 13, 3) := by decide +kernel
theorem dX11_relation_4 : decode cX11_relation 4 = .ok (.aload_n 0, 1) := by decide +kernel
theorem dX11_relation_5 : decode cX11_relation 5 = .ok (.getfield 366, 3) := by decide +kernel
theorem dX11_relation_8 : decode cX11_relation 8 = .ok (.iaload, 1) := by decide +kernel
theorem dX11_relation_9 : decode cX11_relation 9 = .ok (.iconst 3, 1) := by decide +kernel
theorem dX11_relation_10 : decode cX11_relation 10 = .ok (.if_icmp .ne 15, 3) := by decide +kernel
theorem dX11_relation_13 : decode cX11_relation 13 = .ok (.aload_n 0, 1) := by decide +kernel
theorem dX11_relation_14 : decode cX11_relation 14 = .ok (.getfield 19, 3) := by decide +kernel
theorem dX11_relation_17 : decode cX11_relation 17 = .ok (.aload_n 0, 1) := by decide +kernel
theorem dX11_relation_18 : decode cX11_relation 18 = .ok (.getfield 366, 3) := by decide +kernel
theorem dX11_relation_21 : decode cX11_relation 21 = .ok (.laload, 1) := by decide +kernel
theorem dX11_relation_22 : decode cX11_relation 22 = .ok (.goto 4, 3) := by decide +kernel
theorem dX11_relation_25 : decode cX11_relation 25 = .ok (.lconst 0, 1) := by decide +kernel
theorem dX11_relation_26 : decode cX11_relation 26 = .ok (.lstore_n 1, 1) := by decide +kernel
theorem dX11_relation_27 : decode cX11_relation 27 = .ok (.lload_n 1, 1) := by decide +kernel
theorem dX11_relation_28 : decode cX11_relation 28 = .ok (.ldc2_w 599, 3) := by decide +kernel
theorem dX11_relation_31 : decode cX11_relation 31 = .ok (.lcmp, 1) := by decide +kernel
theorem dX11_relation_32 : decode cX11_relation 32 = .ok (.ifCond .ne 7, 3) := by decide +kernel
theorem dX11_relation_35 : decode cX11_relation 35 = .ok (.iconst 0, 1) := by decide +kernel
theorem dX11_relation_36 : decode cX11_relation 36 = .ok (.goto 64, 3) := by decide +kernel
theorem dX11_relation_39 : decode cX11_relation 39 = .ok (.lload_n 1, 1) := by decide +kernel
theorem dX11_relation_40 : decode cX11_relation 40 = .ok (.ldc2_w 601, 3) := by decide +kernel
theorem dX11_relation_43 : decode cX11_relation 43 = .ok (.lcmp, 1) := by decide +kernel
theorem dX11_relation_44 : decode cX11_relation 44 = .ok (.ifCond .ne 7, 3) := by decide +kernel
theorem dX11_relation_47 : decode cX11_relation 47 = .ok (.iconst 1, 1) := by decide +kernel
theorem dX11_relation_48 : decode cX11_relation 48 = .ok (.goto 52, 3) := by decide +kernel
theorem dX11_relation_51 : decode cX11_relation 51 = .ok (.lload_n 1, 1) := by decide +kernel
theorem dX11_relation_52 : decode cX11_relation 52 = .ok (.ldc2_w 603, 3) := by decide +kernel
theorem dX11_relation_55 : decode cX11_relation 55 = .ok (.lcmp, 1) := by decide +kernel
theorem dX11_relation_56 : decode cX11_relation 56 = .ok (.ifCond .ne 7, 3) := by decide +kernel
theorem dX11_relation_59 : decode cX11_relation 59 = .ok (.iconst 2, 1) := by decide +kernel
theorem dX11_relation_60 : decode cX11_relation 60 = .ok (.goto 40, 3) := by decide +kernel
theorem dX11_relation_63 : decode cX11_relation 63 = .ok (.lload_n 1, 1) := by decide +kernel
theorem dX11_relation_64 : decode cX11_relation 64 = .ok (.ldc2_w 605, 3) := by decide +kernel
theorem dX11_relation_67 : decode cX11_relation 67 = .ok (.lcmp, 1) := by decide +kernel
theorem dX11_relation_68 : decode cX11_relation 68 = .ok (.ifCond .ne 7, 3) := by decide +kernel
theorem dX11_relation_71 : decode cX11_relation 71 = .ok (.iconst 3, 1) := by decide +kernel
theorem dX11_relation_72 : decode cX11_relation 72 = .ok (.goto 28, 3) := by decide +kernel
theorem dX11_relation_75 : decode cX11_relation 75 = .ok (.lload_n 1, 1) := by decide +kernel
theorem dX11_relation_76 : decode cX11_relation 76 = .ok (.ldc2_w 607, 3) := by decide +kernel
theorem dX11_relation_79 : decode cX11_relation 79 = .ok (.lcmp, 1) := by decide +kernel
theorem dX11_relation_80 : decode cX11_relation 80 = .ok (.ifCond .ne 7, 3) := by decide +kernel
theorem dX11_relation_83 : decode cX11_relation 83 = .ok (.iconst 4, 1) := by decide +kernel
theorem dX11_relation_84 : decode cX11_relation 84 = .ok (.goto 16, 3) := by decide +kernel
theorem dX11_relation_87 : decode cX11_relation 87 = .ok (.lload_n 1, 1) := by decide +kernel
theorem dX11_relation_88 : decode cX11_relation 88 = .ok (.ldc2_w 609, 3) := by decide +kernel
theorem dX11_relation_91 : decode cX11_relation 91 = .ok (.lcmp, 1) := by decide +kernel
theorem dX11_relation_92 : decode cX11_relation 92 = .ok (.ifCond .ne 7, 3) := by decide +kernel
theorem dX11_relation_95 : decode cX11_relation 95 = .ok (.iconst 5, 1) := by decide +kernel
theorem dX11_relation_96 : decode cX11_relation 96 = .ok (.goto 4, 3) := by decide +kernel
theorem dX11_relation_99 : decode cX11_relation 99 = .ok (.iconst (-1), 1) := by decide +kernel
theorem dX11_relation_100 : decode cX11_relation 100 = .ok (.ireturn, 1) := by decide +kernel
theorem dX11_ifOf_0 : decode cX11_ifOf 0 = .ok (.aload_n 0, 1) := by decide +kernel
theorem dX11_ifOf_1 : decode cX11_ifOf 1 = .ok (.iload_n 1, 1) := by decide +kernel
theorem dX11_ifOf_2 : decode cX11_ifOf 2 = .ok (.iconst 0, 1) := by decide +kernel
theorem dX11_ifOf_3 : decode cX11_ifOf 3 = .ok (.invokevirtual 588, 3) := by decide +kernel
theorem dX11_ifOf_6 : decode cX11_ifOf 6 = .ok (.aload_n 0, 1) := by decide +kernel
theorem dX11_ifOf_7 : decode cX11_ifOf 7 = .ok (.getfield 360, 3) := by decide +kernel
theorem dX11_ifOf_10 : decode cX11_ifOf 10 = .ok (.ifCond .ne 58, 3) := by decide +kernel
theorem dX11_ifOf_13 : decode cX11_ifOf 13 = .ok (.aload_n 0, 1) := by decide +kernel
theorem dX11_ifOf_14 : decode cX11_ifOf 14 = .ok (.getfield 126, 3) := by decide +kernel
theorem dX11_ifOf_17 : decode cX11_ifOf 17 = .ok (.iload_n 1, 1) := by decide +kernel
theorem dX11_ifOf_18 : decode cX11_ifOf 18 = .ok (.aload_n 0, 1) := by decide +kernel
theorem dX11_ifOf_19 : decode cX11_ifOf 19 = .ok (.invokevirtual 611, 3) := by decide +kernel
theorem dX11_ifOf_22 : decode cX11_ifOf 22 = .ok (.iastore, 1) := by decide +kernel
theorem dX11_ifOf_23 : decode cX11_ifOf 23 = .ok (.aload_n 0, 1) := by decide +kernel
theorem dX11_ifOf_24 : decode cX11_ifOf 24 = .ok (.getfield 126, 3) := by decide +kernel
theorem dX11_ifOf_27 : decode cX11_ifOf 27 = .ok (.iload_n 1, 1) := by decide +kernel
theorem dX11_ifOf_28 : decode cX11_ifOf 28 = .ok (.iaload, 1) := by decide +kernel
theorem dX11_ifOf_29 : decode cX11_ifOf 29 = .ok (.iconst (-1), 1) := by decide +kernel
theorem dX11_ifOf_30 : decode cX11_ifOf 30 = .ok (.if_icmp .ne 20, 3) := by decide +kernel
theorem dX11_ifOf_33 : decode cX11_ifOf 33 = .ok (.aload_n 0, 1) := by decide +kernel
theorem dX11_ifOf_34 : decode cX11_ifOf 34 = .ok (.iconst 2, 1) := by decide +kernel
theorem dX11_ifOf_35 : decode cX11_ifOf 35 = .ok (.aload_n 0, 1) := by decide +kernel
theorem dX11_ifOf_36 : decode cX11_ifOf 36 = .ok (.getfield 16, 3) := by decide +kernel
theorem dX11_ifOf_39 : decode cX11_ifOf 39 = .ok (.aload_n 0, 1) := by decide +kernel
theorem dX11_ifOf_40 : decode cX11_ifOf 40 = .ok (.getfield 366, 3) := by decide +kernel
theorem dX11_ifOf_43 : decode cX11_ifOf 43 = .ok (.iaload, 1) := by decide +kernel
theorem dX11_ifOf_44 : decode cX11_ifOf 44 = .ok (.invokevirtual 369, 3) := by decide +kernel
theorem dX11_ifOf_47 : decode cX11_ifOf 47 = .ok (.goto 21, 3) := by decide +kernel
theorem dX11_ifOf_50 : decode cX11_ifOf 50 = .ok (.aload_n 0, 1) := by decide +kernel
theorem dX11_ifOf_51 : decode cX11_ifOf 51 = .ok (.invokevirtual 377, 3) := by decide +kernel
theorem dX11_ifOf_54 : decode cX11_ifOf 54 = .ok (.aload_n 0, 1) := by decide +kernel
theorem dX11_ifOf_55 : decode cX11_ifOf 55 = .ok (.iload_n 1, 1) := by decide +kernel
theorem dX11_ifOf_56 : decode cX11_ifOf 56 = .ok (.iconst 1, 1) := by decide +kernel
theorem dX11_ifOf_57 : decode cX11_ifOf 57 = .ok (.invokevirtual 588, 3) := by decide +kernel
theorem dX11_ifOf_60 : decode cX11_ifOf 60 = .ok (.aload_n 0, 1) := by decide +kernel
theorem dX11_ifOf_61 : decode cX11_ifOf 61 = .ok (.iconst 1, 1) := by decide +kernel
theorem dX11_ifOf_62 : decode cX11_ifOf 62 = .ok (.ldc2_w 426, 3) := by decide +kernel
theorem dX11_ifOf_65 : decode cX11_ifOf 65 = .ok (.invokevirtual 464, 3) := by decide +kernel
theorem dX11_ifOf_68 : decode cX11_ifOf 68 = .ok (.return_, 1) := by decide +kernel
theorem dX11_headOf_0 : decode cX11_headOf 0 = .ok (.aload_n 0, 1) := by decide +kernel
theorem dX11_headOf_1 : decode cX11_headOf 1 = .ok (.getfield 96, 3) := by decide +kernel
theorem dX11_headOf_4 : decode cX11_headOf 4 = .ok (.iload_n 1, 1) := by decide +kernel
theorem dX11_headOf_5 : decode cX11_headOf 5 = .ok (.iaload, 1) := by decide +kernel
theorem dX11_headOf_6 : decode cX11_headOf 6 = .ok (.tableswitch 166 3 15 #[66, 66, 166, 74, 90, 166, 98, 166, 109, 125, 133, 141, 149], 66) := by decide +kernel
theorem dX11_headOf_72 : decode cX11_headOf 72 = .ok (.aload_n 0, 1) := by decide +kernel
theorem dX11_headOf_73 : decode cX11_headOf 73 = .ok (.iload_n 1, 1) := by decide +kernel
theorem dX11_headOf_74 : decode cX11_headOf 74 = .ok (.invokevirtual 614, 3) := by decide +kernel
theorem dX11_headOf_77 : decode cX11_headOf 77 = .ok (.goto 95, 3) := by decide +kernel
theorem dX11_headOf_80 : decode cX11_headOf 80 = .ok (.aload_n 0, 1) := by decide +kernel
theorem dX11_headOf_81 : decode cX11_headOf 81 = .ok (.iload_n 1, 1) := by decide +kernel
theorem dX11_headOf_82 : decode cX11_headOf 82 = .ok (.invokevirtual 582, 3) := by decide +kernel
theorem dX11_headOf_85 : decode cX11_headOf 85 = .ok (.aload_n 0, 1) := by decide +kernel
theorem dX11_headOf_86 : decode cX11_headOf 86 = .ok (.iconst 1, 1) := by decide +kernel
theorem dX11_headOf_87 : decode cX11_headOf 87 = .ok (.ldc2_w 426, 3) := by decide +kernel
theorem dX11_headOf_90 : decode cX11_headOf 90 = .ok (.invokevirtual 464, 3) := by decide +kernel
theorem dX11_headOf_93 : decode cX11_headOf 93 = .ok (.goto 79, 3) := by decide +kernel
theorem dX11_headOf_96 : decode cX11_headOf 96 = .ok (.aload_n 0, 1) := by decide +kernel
theorem dX11_headOf_97 : decode cX11_headOf 97 = .ok (.iload_n 1, 1) := by decide +kernel
theorem dX11_headOf_98 : decode cX11_headOf 98 = .ok (.invokevirtual 617, 3) := by decide +kernel
theorem dX11_headOf_101 : decode cX11_headOf 101 = .ok (.goto 71, 3) := by decide +kernel
theorem dX11_headOf_104 : decode cX11_headOf 104 = .ok (.aload_n 0, 1) := by decide +kernel
theorem dX11_headOf_105 : decode cX11_headOf 105 = .ok (.iconst 1, 1) := by decide +kernel
theorem dX11_headOf_106 : decode cX11_headOf 106 = .ok (.ldc2_w 416, 3) := by decide +kernel
theorem dX11_headOf_109 : decode cX11_headOf 109 = .ok (.invokevirtual 464, 3) := by decide +kernel
theorem dX11_headOf_112 : decode cX11_headOf 112 = .ok (.goto 60, 3) := by decide +kernel
theorem dX11_headOf_115 : decode cX11_headOf 115 = .ok (.aload_n 0, 1) := by decide +kernel
theorem dX11_headOf_116 : decode cX11_headOf 116 = .ok (.iload_n 1, 1) := by decide +kernel
theorem dX11_headOf_117 : decode cX11_headOf 117 = .ok (.invokevirtual 617, 3) := by decide +kernel
theorem dX11_headOf_120 : decode cX11_headOf 120 = .ok (.aload_n 0, 1) := by decide +kernel
theorem dX11_headOf_121 : decode cX11_headOf 121 = .ok (.iconst 1, 1) := by decide +kernel
theorem dX11_headOf_122 : decode cX11_headOf 122 = .ok (.ldc2_w 434, 3) := by decide +kernel
theorem dX11_headOf_125 : decode cX11_headOf 125 = .ok (.invokevirtual 464, 3) := by decide +kernel
theorem dX11_headOf_128 : decode cX11_headOf 128 = .ok (.goto 44, 3) := by decide +kernel
theorem dX11_headOf_131 : decode cX11_headOf 131 = .ok (.aload_n 0, 1) := by decide +kernel
theorem dX11_headOf_132 : decode cX11_headOf 132 = .ok (.iload_n 1, 1) := by decide +kernel
theorem dX11_headOf_133 : decode cX11_headOf 133 = .ok (.invokevirtual 620, 3) := by decide +kernel
theorem dX11_headOf_136 : decode cX11_headOf 136 = .ok (.goto 36, 3) := by decide +kernel
theorem dX11_headOf_139 : decode cX11_headOf 139 = .ok (.aload_n 0, 1) := by decide +kernel
theorem dX11_headOf_140 : decode cX11_headOf 140 = .ok (.iload_n 1, 1) := by decide +kernel
theorem dX11_headOf_141 : decode cX11_headOf 141 = .ok (.invokevirtual 623, 3) := by decide +kernel
theorem dX11_headOf_144 : decode cX11_headOf 144 = .ok (.goto 28, 3) := by decide +kernel
theorem dX11_headOf_147 : decode cX11_headOf 147 = .ok (.aload_n 0, 1) := by decide +kernel
theorem dX11_headOf_148 : decode cX11_headOf 148 = .ok (.iload_n 1, 1) := by decide +kernel
theorem dX11_headOf_149 : decode cX11_headOf 149 = .ok (.invokevirtual 626, 3) := by decide +kernel
theorem dX11_headOf_152 : decode cX11_headOf 152 = .ok (.goto 20, 3) := by decide +kernel
theorem dX11_headOf_155 : decode cX11_headOf 155 = .ok (.aload_n 0, 1) := by decide +kernel
theorem dX11_headOf_156 : decode cX11_headOf 156 = .ok (.iconst 3, 1) := by decide +kernel
theorem dX11_headOf_157 : decode cX11_headOf 157 = .ok (.ldc2_w 480, 3) := by decide +kernel
theorem dX11_headOf_160 : decode cX11_headOf 160 = .ok (.invokevirtual 464, 3) := by decide +kernel
theorem dX11_headOf_163 : decode cX11_headOf 163 = .ok (.aload_n 0, 1) := by decide +kernel
theorem dX11_headOf_164 : decode cX11_headOf 164 = .ok (.iload_n 1, 1) := by decide +kernel
theorem dX11_headOf_165 : decode cX11_headOf 165 = .ok (.iconst 0, 1) := by decide +kernel
theorem dX11_headOf_166 : decode cX11_headOf 166 = .ok (.invokevirtual 588, 3) := by decide +kernel
theorem dX11_headOf_169 : decode cX11_headOf 169 = .ok (.goto 3, 3) := by decide +kernel
theorem dX11_headOf_172 : decode cX11_headOf 172 = .ok (.return_, 1) := by decide +kernel
theorem dX11_openRow_0 : decode cX11_openRow 0 = .ok (.aload_n 0, 1) := by decide +kernel
theorem dX11_openRow_1 : decode cX11_openRow 1 = .ok (.invokevirtual 629, 3) := by decide +kernel
theorem dX11_openRow_4 : decode cX11_openRow 4 = .ok (.istore_n 2, 1) := by decide +kernel
theorem dX11_openRow_5 : decode cX11_openRow 5 = .ok (.aload_n 0, 1) := by decide +kernel
theorem dX11_openRow_6 : decode cX11_openRow 6 = .ok (.getfield 129, 3) := by decide +kernel
theorem dX11_openRow_9 : decode cX11_openRow 9 = .ok (.iload_n 1, 1) := by decide +kernel
theorem dX11_openRow_10 : decode cX11_openRow 10 = .ok (.iaload, 1) := by decide +kernel
theorem dX11_openRow_11 : decode cX11_openRow 11 = .ok (.iconst (-1), 1) := by decide +kernel
theorem dX11_openRow_12 : decode cX11_openRow 12 = .ok (.if_icmp .ne 13, 3) := by decide +kernel
theorem dX11_openRow_15 : decode cX11_openRow 15 = .ok (.aload_n 0, 1) := by decide +kernel
theorem dX11_openRow_16 : decode cX11_openRow 16 = .ok (.getfield 129, 3) := by decide +kernel
theorem dX11_openRow_19 : decode cX11_openRow 19 = .ok (.iload_n 1, 1) := by decide +kernel
theorem dX11_openRow_20 : decode cX11_openRow 20 = .ok (.iload_n 2, 1) := by decide +kernel
theorem dX11_openRow_21 : decode cX11_openRow 21 = .ok (.iastore, 1) := by decide +kernel
theorem dX11_openRow_22 : decode cX11_openRow 22 = .ok (.goto 20, 3) := by decide +kernel
theorem dX11_openRow_25 : decode cX11_openRow 25 = .ok (.aload_n 0, 1) := by decide +kernel
theorem dX11_openRow_26 : decode cX11_openRow 26 = .ok (.getfield 147, 3) := by decide +kernel
theorem dX11_openRow_29 : decode cX11_openRow 29 = .ok (.aload_n 0, 1) := by decide +kernel
theorem dX11_openRow_30 : decode cX11_openRow 30 = .ok (.getfield 153, 3) := by decide +kernel
theorem dX11_openRow_33 : decode cX11_openRow 33 = .ok (.aload_n 0, 1) := by decide +kernel
theorem dX11_openRow_34 : decode cX11_openRow 34 = .ok (.getfield 576, 3) := by decide +kernel
theorem dX11_openRow_37 : decode cX11_openRow 37 = .ok (.iconst 1, 1) := by decide +kernel
theorem dX11_openRow_38 : decode cX11_openRow 38 = .ok (.isub, 1) := by decide +kernel
theorem dX11_openRow_39 : decode cX11_openRow 39 = .ok (.iaload, 1) := by decide +kernel
theorem dX11_openRow_40 : decode cX11_openRow 40 = .ok (.iload_n 2, 1) := by decide +kernel
theorem dX11_openRow_41 : decode cX11_openRow 41 = .ok (.iastore, 1) := by decide +kernel
theorem dX11_openRow_42 : decode cX11_openRow 42 = .ok (.aload_n 0, 1) := by decide +kernel
theorem dX11_openRow_43 : decode cX11_openRow 43 = .ok (.getfield 153, 3) := by decide +kernel
theorem dX11_openRow_46 : decode cX11_openRow 46 = .ok (.aload_n 0, 1) := by decide +kernel
theorem dX11_openRow_47 : decode cX11_openRow 47 = .ok (.getfield 576, 3) := by decide +kernel
theorem dX11_openRow_50 : decode cX11_openRow 50 = .ok (.iconst 1, 1) := by decide +kernel
theorem dX11_openRow_51 : decode cX11_openRow 51 = .ok (.isub, 1) := by decide +kernel
theorem dX11_openRow_52 : decode cX11_openRow 52 = .ok (.iload_n 2, 1) := by decide +kernel
theorem dX11_openRow_53 : decode cX11_openRow 53 = .ok (.iastore, 1) := by decide +kernel
theorem dX11_openRow_54 : decode cX11_openRow 54 = .ok (.aload_n 0, 1) := by decide +kernel
theorem dX11_openRow_55 : decode cX11_openRow 55 = .ok (.getfield 156, 3) := by decide +kernel
theorem dX11_openRow_58 : decode cX11_openRow 58 = .ok (.aload_n 0, 1) := by decide +kernel
theorem dX11_openRow_59 : decode cX11_openRow 59 = .ok (.getfield 576, 3) := by decide +kernel
theorem dX11_openRow_62 : decode cX11_openRow 62 = .ok (.iconst 1, 1) := by decide +kernel
theorem dX11_openRow_63 : decode cX11_openRow 63 = .ok (.isub, 1) := by decide +kernel
theorem dX11_openRow_64 : decode cX11_openRow 64 = .ok (.dup2, 1) := by decide +kernel
theorem dX11_openRow_65 : decode cX11_openRow 65 = .ok (.iaload, 1) := by decide +kernel
theorem dX11_openRow_66 : decode cX11_openRow 66 = .ok (.iconst 1, 1) := by decide +kernel
theorem dX11_openRow_67 : decode cX11_openRow 67 = .ok (.iadd, 1) := by decide +kernel
theorem dX11_openRow_68 : decode cX11_openRow 68 = .ok (.iastore, 1) := by decide +kernel
theorem dX11_openRow_69 : decode cX11_openRow 69 = .ok (.return_, 1) := by decide +kernel
theorem dX11_goesOn_0 : decode cX11_goesOn 0 = .ok (.aload_n 0, 1) := by decide +kernel
theorem dX11_goesOn_1 : decode cX11_goesOn 1 = .ok (.getfield 96, 3) := by decide +kernel
theorem dX11_goesOn_4 : decode cX11_goesOn 4 = .ok (.iload_n 1, 1) := by decide +kernel
theorem dX11_goesOn_5 : decode cX11_goesOn 5 = .ok (.iaload, 1) := by decide +kernel
theorem dX11_goesOn_6 : decode cX11_goesOn 6 = .ok (.istore_n 2, 1) := by decide +kernel
theorem dX11_goesOn_7 : decode cX11_goesOn 7 = .ok (.aload_n 0, 1) := by decide +kernel
theorem dX11_goesOn_8 : decode cX11_goesOn 8 = .ok (.getfield 156, 3) := by decide +kernel
theorem dX11_goesOn_11 : decode cX11_goesOn 11 = .ok (.aload_n 0, 1) := by decide +kernel
theorem dX11_goesOn_12 : decode cX11_goesOn 12 = .ok (.getfield 576, 3) := by decide +kernel
theorem dX11_goesOn_15 : decode cX11_goesOn 15 = .ok (.iconst 1, 1) := by decide +kernel
theorem dX11_goesOn_16 : decode cX11_goesOn 16 = .ok (.isub, 1) := by decide +kernel
theorem dX11_goesOn_17 : decode cX11_goesOn 17 = .ok (.iaload, 1) := by decide +kernel
theorem dX11_goesOn_18 : decode cX11_goesOn 18 = .ok (.istore_n 3, 1) := by decide +kernel
theorem dX11_goesOn_19 : decode cX11_goesOn 19 = .ok (.iload_n 2, 1) := by decide +kernel
theorem dX11_goesOn_20 : decode cX11_goesOn 20 = .ok (.bipush 16, 2) := by decide +kernel
theorem dX11_goesOn_22 : decode cX11_goesOn 22 = .ok (.if_icmp .ne 64, 3) := by decide +kernel
theorem dX11_goesOn_25 : decode cX11_goesOn 25 = .ok (.aload_n 0, 1) := by decide +kernel
theorem dX11_goesOn_26 : decode cX11_goesOn 26 = .ok (.iconst 3, 1) := by decide +kernel
theorem dX11_goesOn_27 : decode cX11_goesOn 27 = .ok (.ldc2_w 632, 3) := by decide +kernel
theorem dX11_goesOn_30 : decode cX11_goesOn 30 = .ok (.invokevirtual 373, 3) := by decide +kernel
theorem dX11_goesOn_33 : decode cX11_goesOn 33 = .ok (.ifCond .eq 43, 3) := by decide +kernel
theorem dX11_goesOn_36 : decode cX11_goesOn 36 = .ok (.iload_n 3, 1) := by decide +kernel
theorem dX11_goesOn_37 : decode cX11_goesOn 37 = .ok (.bipush 8, 2) := by decide +kernel
theorem dX11_goesOn_39 : decode cX11_goesOn 39 = .ok (.if_icmp .ne 20, 3) := by decide +kernel
theorem dX11_goesOn_42 : decode cX11_goesOn 42 = .ok (.aload_n 0, 1) := by decide +kernel
theorem dX11_goesOn_43 : decode cX11_goesOn 43 = .ok (.bipush 6, 2) := by decide +kernel
theorem dX11_goesOn_45 : decode cX11_goesOn 45 = .ok (.aload_n 0, 1) := by decide +kernel
theorem dX11_goesOn_46 : decode cX11_goesOn 46 = .ok (.getfield 16, 3) := by decide +kernel
theorem dX11_goesOn_49 : decode cX11_goesOn 49 = .ok (.aload_n 0, 1) := by decide +kernel
theorem dX11_goesOn_50 : decode cX11_goesOn 50 = .ok (.getfield 366, 3) := by decide +kernel
theorem dX11_goesOn_53 : decode cX11_goesOn 53 = .ok (.iaload, 1) := by decide +kernel
theorem dX11_goesOn_54 : decode cX11_goesOn 54 = .ok (.invokevirtual 369, 3) := by decide +kernel
theorem dX11_goesOn_57 : decode cX11_goesOn 57 = .ok (.iconst 0, 1) := by decide +kernel
theorem dX11_goesOn_58 : decode cX11_goesOn 58 = .ok (.ireturn, 1) := by decide +kernel
theorem dX11_goesOn_59 : decode cX11_goesOn 59 = .ok (.aload_n 0, 1) := by decide +kernel
theorem dX11_goesOn_60 : decode cX11_goesOn 60 = .ok (.invokevirtual 377, 3) := by decide +kernel
theorem dX11_goesOn_63 : decode cX11_goesOn 63 = .ok (.aload_n 0, 1) := by decide +kernel
theorem dX11_goesOn_64 : decode cX11_goesOn 64 = .ok (.getfield 360, 3) := by decide +kernel
theorem dX11_goesOn_67 : decode cX11_goesOn 67 = .ok (.ifCond .ne 7, 3) := by decide +kernel
theorem dX11_goesOn_70 : decode cX11_goesOn 70 = .ok (.iconst 1, 1) := by decide +kernel
theorem dX11_goesOn_71 : decode cX11_goesOn 71 = .ok (.goto 4, 3) := by decide +kernel
theorem dX11_goesOn_74 : decode cX11_goesOn 74 = .ok (.iconst 0, 1) := by decide +kernel
theorem dX11_goesOn_75 : decode cX11_goesOn 75 = .ok (.ireturn, 1) := by decide +kernel
theorem dX11_goesOn_76 : decode cX11_goesOn 76 = .ok (.aload_n 0, 1) := by decide +kernel
theorem dX11_goesOn_77 : decode cX11_goesOn 77 = .ok (.iconst 3, 1) := by decide +kernel
theorem dX11_goesOn_78 : decode cX11_goesOn 78 = .ok (.ldc2_w 634, 3) := by decide +kernel
theorem dX11_goesOn_81 : decode cX11_goesOn 81 = .ok (.invokevirtual 464, 3) := by decide +kernel
theorem dX11_goesOn_84 : decode cX11_goesOn 84 = .ok (.iconst 0, 1) := by decide +kernel
theorem dX11_goesOn_85 : decode cX11_goesOn 85 = .ok (.ireturn, 1) := by decide +kernel
theorem dX11_goesOn_86 : decode cX11_goesOn 86 = .ok (.iload_n 2, 1) := by decide +kernel
theorem dX11_goesOn_87 : decode cX11_goesOn 87 = .ok (.bipush 6, 2) := by decide +kernel
theorem dX11_goesOn_89 : decode cX11_goesOn 89 = .ok (.if_icmp .eq 9, 3) := by decide +kernel
theorem dX11_goesOn_92 : decode cX11_goesOn 92 = .ok (.iload_n 2, 1) := by decide +kernel
theorem dX11_goesOn_93 : decode cX11_goesOn 93 = .ok (.bipush 14, 2) := by decide +kernel
theorem dX11_goesOn_95 : decode cX11_goesOn 95 = .ok (.if_icmp .ne 36, 3) := by decide +kernel
theorem dX11_goesOn_98 : decode cX11_goesOn 98 = .ok (.iload_n 3, 1) := by decide +kernel
theorem dX11_goesOn_99 : decode cX11_goesOn 99 = .ok (.iconst 1, 1) := by decide +kernel
theorem dX11_goesOn_100 : decode cX11_goesOn 100 = .ok (.if_icmp .ne 31, 3) := by decide +kernel
theorem dX11_goesOn_103 : decode cX11_goesOn 103 = .ok (.aload_n 0, 1) := by decide +kernel
theorem dX11_goesOn_104 : decode cX11_goesOn 104 = .ok (.iconst 1, 1) := by decide +kernel
theorem dX11_goesOn_105 : decode cX11_goesOn 105 = .ok (.ldc2_w 428, 3) := by decide +kernel
theorem dX11_goesOn_108 : decode cX11_goesOn 108 = .ok (.invokevirtual 373, 3) := by decide +kernel
theorem dX11_goesOn_111 : decode cX11_goesOn 111 = .ok (.ifCond .eq 20, 3) := by decide +kernel
theorem dX11_goesOn_114 : decode cX11_goesOn 114 = .ok (.aload_n 0, 1) := by decide +kernel
theorem dX11_goesOn_115 : decode cX11_goesOn 115 = .ok (.invokevirtual 377, 3) := by decide +kernel
theorem dX11_goesOn_118 : decode cX11_goesOn 118 = .ok (.aload_n 0, 1) := by decide +kernel
theorem dX11_goesOn_119 : decode cX11_goesOn 119 = .ok (.getfield 360, 3) := by decide +kernel
theorem dX11_goesOn_122 : decode cX11_goesOn 122 = .ok (.ifCond .ne 7, 3) := by decide +kernel
theorem dX11_goesOn_125 : decode cX11_goesOn 125 = .ok (.iconst 1, 1) := by decide +kernel
theorem dX11_goesOn_126 : decode cX11_goesOn 126 = .ok (.goto 4, 3) := by decide +kernel
theorem dX11_goesOn_129 : decode cX11_goesOn 129 = .ok (.iconst 0, 1) := by decide +kernel
theorem dX11_goesOn_130 : decode cX11_goesOn 130 = .ok (.ireturn, 1) := by decide +kernel
theorem dX11_goesOn_131 : decode cX11_goesOn 131 = .ok (.iload_n 2, 1) := by decide +kernel
theorem dX11_goesOn_132 : decode cX11_goesOn 132 = .ok (.bipush 8, 2) := by decide +kernel
theorem dX11_goesOn_134 : decode cX11_goesOn 134 = .ok (.if_icmp .eq 9, 3) := by decide +kernel
theorem dX11_goesOn_137 : decode cX11_goesOn 137 = .ok (.iload_n 2, 1) := by decide +kernel
theorem dX11_goesOn_138 : decode cX11_goesOn 138 = .ok (.bipush 9, 2) := by decide +kernel
theorem dX11_goesOn_140 : decode cX11_goesOn 140 = .ok (.if_icmp .ne 23, 3) := by decide +kernel
theorem dX11_goesOn_143 : decode cX11_goesOn 143 = .ok (.aload_n 0, 1) := by decide +kernel
theorem dX11_goesOn_144 : decode cX11_goesOn 144 = .ok (.iconst 1, 1) := by decide +kernel
theorem dX11_goesOn_145 : decode cX11_goesOn 145 = .ok (.ldc2_w 432, 3) := by decide +kernel
theorem dX11_goesOn_148 : decode cX11_goesOn 148 = .ok (.invokevirtual 464, 3) := by decide +kernel
theorem dX11_goesOn_151 : decode cX11_goesOn 151 = .ok (.aload_n 0, 1) := by decide +kernel
theorem dX11_goesOn_152 : decode cX11_goesOn 152 = .ok (.getfield 360, 3) := by decide +kernel
theorem dX11_goesOn_155 : decode cX11_goesOn 155 = .ok (.ifCond .ne 8, 3) := by decide +kernel
theorem dX11_goesOn_158 : decode cX11_goesOn 158 = .ok (.aload_n 0, 1) := by decide +kernel
theorem dX11_goesOn_159 : decode cX11_goesOn 159 = .ok (.iload_n 1, 1) := by decide +kernel
theorem dX11_goesOn_160 : decode cX11_goesOn 160 = .ok (.invokevirtual 617, 3) := by decide +kernel
theorem dX11_goesOn_163 : decode cX11_goesOn 163 = .ok (.iload_n 2, 1) := by decide +kernel
theorem dX11_goesOn_164 : decode cX11_goesOn 164 = .ok (.bipush 10, 2) := by decide +kernel
theorem dX11_goesOn_166 : decode cX11_goesOn 166 = .ok (.if_icmp .ne 16, 3) := by decide +kernel
theorem dX11_goesOn_169 : decode cX11_goesOn 169 = .ok (.aload_n 0, 1) := by decide +kernel
theorem dX11_goesOn_170 : decode cX11_goesOn 170 = .ok (.iconst 1, 1) := by decide +kernel
theorem dX11_goesOn_171 : decode cX11_goesOn 171 = .ok (.ldc2_w 432, 3) := by decide +kernel
theorem dX11_goesOn_174 : decode cX11_goesOn 174 = .ok (.invokevirtual 464, 3) := by decide +kernel
theorem dX11_goesOn_177 : decode cX11_goesOn 177 = .ok (.aload_n 0, 1) := by decide +kernel
theorem dX11_goesOn_178 : decode cX11_goesOn 178 = .ok (.iload_n 1, 1) := by decide +kernel
theorem dX11_goesOn_179 : decode cX11_goesOn 179 = .ok (.invokevirtual 582, 3) := by decide +kernel
theorem dX11_goesOn_182 : decode cX11_goesOn 182 = .ok (.aload_n 0, 1) := by decide +kernel
theorem dX11_goesOn_183 : decode cX11_goesOn 183 = .ok (.iconst 1, 1) := by decide +kernel
theorem dX11_goesOn_184 : decode cX11_goesOn 184 = .ok (.ldc2_w 424, 3) := by decide +kernel
theorem dX11_goesOn_187 : decode cX11_goesOn 187 = .ok (.invokevirtual 464, 3) := by decide +kernel
theorem dX11_goesOn_190 : decode cX11_goesOn 190 = .ok (.iconst 0, 1) := by decide +kernel
theorem dX11_goesOn_191 : decode cX11_goesOn 191 = .ok (.ireturn, 1) := by decide +kernel
theorem dX11_readParts_0 : decode cX11_readParts 0 = .ok (.aload_n 0, 1) := by decide +kernel
theorem dX11_readParts_1 : decode cX11_readParts 1 = .ok (.iconst 0, 1) := by decide +kernel
theorem dX11_readParts_2 : decode cX11_readParts 2 = .ok (.putfield 564, 3) := by decide +kernel
theorem dX11_readParts_5 : decode cX11_readParts 5 = .ok (.aload_n 0, 1) := by decide +kernel
theorem dX11_readParts_6 : decode cX11_readParts 6 = .ok (.iconst 0, 1) := by decide +kernel
theorem dX11_readParts_7 : decode cX11_readParts 7 = .ok (.putfield 576, 3) := by decide +kernel
theorem dX11_readParts_10 : decode cX11_readParts 10 = .ok (.aload_n 0, 1) := by decide +kernel
theorem dX11_readParts_11 : decode cX11_readParts 11 = .ok (.iconst 0, 1) := by decide +kernel
theorem dX11_readParts_12 : decode cX11_readParts 12 = .ok (.putfield 486, 3) := by decide +kernel
theorem dX11_readParts_15 : decode cX11_readParts 15 = .ok (.aload_n 0, 1) := by decide +kernel
theorem dX11_readParts_16 : decode cX11_readParts 16 = .ok (.invokevirtual 629, 3) := by decide +kernel
theorem dX11_readParts_19 : decode cX11_readParts 19 = .ok (.istore_n 1, 1) := by decide +kernel
theorem dX11_readParts_20 : decode cX11_readParts 20 = .ok (.iconst 1, 1) := by decide +kernel
theorem dX11_readParts_21 : decode cX11_readParts 21 = .ok (.istore_n 2, 1) := by decide +kernel
theorem dX11_readParts_22 : decode cX11_readParts 22 = .ok (.iload_n 2, 1) := by decide +kernel
theorem dX11_readParts_23 : decode cX11_readParts 23 = .ok (.ifCond .eq 137, 3) := by decide +kernel
theorem dX11_readParts_26 : decode cX11_readParts 26 = .ok (.aload_n 0, 1) := by decide +kernel
theorem dX11_readParts_27 : decode cX11_readParts 27 = .ok (.getfield 360, 3) := by decide +kernel
theorem dX11_readParts_30 : decode cX11_readParts 30 = .ok (.ifCond .ne 130, 3) := by decide +kernel
theorem dX11_readParts_33 : decode cX11_readParts 33 = .ok (.aload_n 0, 1) := by decide +kernel
theorem dX11_readParts_34 : decode cX11_readParts 34 = .ok (.aload_n 0, 1) := by decide +kernel
theorem dX11_readParts_35 : decode cX11_readParts 35 = .ok (.getfield 576, 3) := by decide +kernel
theorem dX11_readParts_38 : decode cX11_readParts 38 = .ok (.ifCond .ne 7, 3) := by decide +kernel
theorem dX11_readParts_41 : decode cX11_readParts 41 = .ok (.iload_n 1, 1) := by decide +kernel
theorem dX11_readParts_42 : decode cX11_readParts 42 = .ok (.goto 14, 3) := by decide +kernel
theorem dX11_readParts_45 : decode cX11_readParts 45 = .ok (.aload_n 0, 1) := by decide +kernel
theorem dX11_readParts_46 : decode cX11_readParts 46 = .ok (.getfield 153, 3) := by decide +kernel
theorem dX11_readParts_49 : decode cX11_readParts 49 = .ok (.aload_n 0, 1) := by decide +kernel
theorem dX11_readParts_50 : decode cX11_readParts 50 = .ok (.getfield 576, 3) := by decide +kernel
theorem dX11_readParts_53 : decode cX11_readParts 53 = .ok (.iconst 1, 1) := by decide +kernel
theorem dX11_readParts_54 : decode cX11_readParts 54 = .ok (.isub, 1) := by decide +kernel
theorem dX11_readParts_55 : decode cX11_readParts 55 = .ok (.iaload, 1) := by decide +kernel
theorem dX11_readParts_56 : decode cX11_readParts 56 = .ok (.invokevirtual 636, 3) := by decide +kernel
theorem dX11_readParts_59 : decode cX11_readParts 59 = .ok (.istore_n 3, 1) := by decide +kernel
theorem dX11_readParts_60 : decode cX11_readParts 60 = .ok (.aload_n 0, 1) := by decide +kernel
theorem dX11_readParts_61 : decode cX11_readParts 61 = .ok (.getfield 360, 3) := by decide +kernel
theorem dX11_readParts_64 : decode cX11_readParts 64 = .ok (.ifCond .ne 8, 3) := by decide +kernel
theorem dX11_readParts_67 : decode cX11_readParts 67 = .ok (.aload_n 0, 1) := by decide +kernel
theorem dX11_readParts_68 : decode cX11_readParts 68 = .ok (.iload_n 3, 1) := by decide +kernel
theorem dX11_readParts_69 : decode cX11_readParts 69 = .ok (.invokevirtual 639, 3) := by decide +kernel
theorem dX11_readParts_72 : decode cX11_readParts 72 = .ok (.aload_n 0, 1) := by decide +kernel
theorem dX11_readParts_73 : decode cX11_readParts 73 = .ok (.getfield 360, 3) := by decide +kernel
theorem dX11_readParts_76 : decode cX11_readParts 76 = .ok (.ifCond .ne 81, 3) := by decide +kernel
theorem dX11_readParts_79 : decode cX11_readParts 79 = .ok (.aload_n 0, 1) := by decide +kernel
theorem dX11_readParts_80 : decode cX11_readParts 80 = .ok (.getfield 96, 3) := by decide +kernel
theorem dX11_readParts_83 : decode cX11_readParts 83 = .ok (.iload_n 3, 1) := by decide +kernel
theorem dX11_readParts_84 : decode cX11_readParts 84 = .ok (.iaload, 1) := by decide +kernel
theorem dX11_readParts_85 : decode cX11_readParts 85 = .ok (.invokestatic 573, 3) := by decide +kernel
theorem dX11_readParts_88 : decode cX11_readParts 88 = .ok (.ifCond .eq 41, 3) := by decide +kernel
theorem dX11_readParts_91 : decode cX11_readParts 91 = .ok (.aload_n 0, 1) := by decide +kernel
theorem dX11_readParts_92 : decode cX11_readParts 92 = .ok (.getfield 150, 3) := by decide +kernel
theorem dX11_readParts_95 : decode cX11_readParts 95 = .ok (.aload_n 0, 1) := by decide +kernel
theorem dX11_readParts_96 : decode cX11_readParts 96 = .ok (.getfield 576, 3) := by decide +kernel
theorem dX11_readParts_99 : decode cX11_readParts 99 = .ok (.iload_n 3, 1) := by decide +kernel
theorem dX11_readParts_100 : decode cX11_readParts 100 = .ok (.iastore, 1) := by decide +kernel
theorem dX11_readParts_101 : decode cX11_readParts 101 = .ok (.aload_n 0, 1) := by decide +kernel
theorem dX11_readParts_102 : decode cX11_readParts 102 = .ok (.getfield 156, 3) := by decide +kernel
theorem dX11_readParts_105 : decode cX11_readParts 105 = .ok (.aload_n 0, 1) := by decide +kernel
theorem dX11_readParts_106 : decode cX11_readParts 106 = .ok (.getfield 576, 3) := by decide +kernel
theorem dX11_readParts_109 : decode cX11_readParts 109 = .ok (.iconst 0, 1) := by decide +kernel
theorem dX11_readParts_110 : decode cX11_readParts 110 = .ok (.iastore, 1) := by decide +kernel
theorem dX11_readParts_111 : decode cX11_readParts 111 = .ok (.aload_n 0, 1) := by decide +kernel
theorem dX11_readParts_112 : decode cX11_readParts 112 = .ok (.dup, 1) := by decide +kernel
theorem dX11_readParts_113 : decode cX11_readParts 113 = .ok (.getfield 576, 3) := by decide +kernel
theorem dX11_readParts_116 : decode cX11_readParts 116 = .ok (.iconst 1, 1) := by decide +kernel
theorem dX11_readParts_117 : decode cX11_readParts 117 = .ok (.iadd, 1) := by decide +kernel
theorem dX11_readParts_118 : decode cX11_readParts 118 = .ok (.putfield 576, 3) := by decide +kernel
theorem dX11_readParts_121 : decode cX11_readParts 121 = .ok (.aload_n 0, 1) := by decide +kernel
theorem dX11_readParts_122 : decode cX11_readParts 122 = .ok (.iload_n 3, 1) := by decide +kernel
theorem dX11_readParts_123 : decode cX11_readParts 123 = .ok (.invokevirtual 642, 3) := by decide +kernel
theorem dX11_readParts_126 : decode cX11_readParts 126 = .ok (.goto 31, 3) := by decide +kernel
theorem dX11_readParts_129 : decode cX11_readParts 129 = .ok (.aload_n 0, 1) := by decide +kernel
theorem dX11_readParts_130 : decode cX11_readParts 130 = .ok (.getfield 135, 3) := by decide +kernel
theorem dX11_readParts_133 : decode cX11_readParts 133 = .ok (.iload_n 3, 1) := by decide +kernel
theorem dX11_readParts_134 : decode cX11_readParts 134 = .ok (.bipush 40, 2) := by decide +kernel
theorem dX11_readParts_136 : decode cX11_readParts 136 = .ok (.aload_n 0, 1) := by decide +kernel
theorem dX11_readParts_137 : decode cX11_readParts 137 = .ok (.getfield 450, 3) := by decide +kernel
theorem dX11_readParts_140 : decode cX11_readParts 140 = .ok (.imul, 1) := by decide +kernel
theorem dX11_readParts_141 : decode cX11_readParts 141 = .ok (.aload_n 0, 1) := by decide +kernel
theorem dX11_readParts_142 : decode cX11_readParts 142 = .ok (.getfield 84, 3) := by decide +kernel
theorem dX11_readParts_145 : decode cX11_readParts 145 = .ok (.aload_n 0, 1) := by decide +kernel
theorem dX11_readParts_146 : decode cX11_readParts 146 = .ok (.getfield 450, 3) := by decide +kernel
theorem dX11_readParts_149 : decode cX11_readParts 149 = .ok (.iaload, 1) := by decide +kernel
theorem dX11_readParts_150 : decode cX11_readParts 150 = .ok (.iadd, 1) := by decide +kernel
theorem dX11_readParts_151 : decode cX11_readParts 151 = .ok (.iastore, 1) := by decide +kernel
theorem dX11_readParts_152 : decode cX11_readParts 152 = .ok (.aload_n 0, 1) := by decide +kernel
theorem dX11_readParts_153 : decode cX11_readParts 153 = .ok (.invokevirtual 645, 3) := by decide +kernel
theorem dX11_readParts_156 : decode cX11_readParts 156 = .ok (.istore_n 2, 1) := by decide +kernel
theorem dX11_readParts_157 : decode cX11_readParts 157 = .ok (.goto (-135), 3) := by decide +kernel
theorem dX11_readParts_160 : decode cX11_readParts 160 = .ok (.iload_n 1, 1) := by decide +kernel
theorem dX11_readParts_161 : decode cX11_readParts 161 = .ok (.ireturn, 1) := by decide +kernel
theorem dX11_behindPart_0 : decode cX11_behindPart 0 = .ok (.aload_n 0, 1) := by decide +kernel
theorem dX11_behindPart_1 : decode cX11_behindPart 1 = .ok (.getfield 360, 3) := by decide +kernel
theorem dX11_behindPart_4 : decode cX11_behindPart 4 = .ok (.ifCond .ne 146, 3) := by decide +kernel
theorem dX11_behindPart_7 : decode cX11_behindPart 7 = .ok (.aload_n 0, 1) := by decide +kernel
theorem dX11_behindPart_8 : decode cX11_behindPart 8 = .ok (.iconst 3, 1) := by decide +kernel
theorem dX11_behindPart_9 : decode cX11_behindPart 9 = .ok (.ldc2_w 462, 3) := by decide +kernel
theorem dX11_behindPart_12 : decode cX11_behindPart 12 = .ok (.invokevirtual 373, 3) := by decide +kernel
theorem dX11_behindPart_15 : decode cX11_behindPart 15 = .ok (.ifCond .eq 20, 3) := by decide +kernel
theorem dX11_behindPart_18 : decode cX11_behindPart 18 = .ok (.aload_n 0, 1) := by decide +kernel
theorem dX11_behindPart_19 : decode cX11_behindPart 19 = .ok (.invokevirtual 377, 3) := by decide +kernel
theorem dX11_behindPart_22 : decode cX11_behindPart 22 = .ok (.aload_n 0, 1) := by decide +kernel
theorem dX11_behindPart_23 : decode cX11_behindPart 23 = .ok (.getfield 360, 3) := by decide +kernel
theorem dX11_behindPart_26 : decode cX11_behindPart 26 = .ok (.ifCond .ne 7, 3) := by decide +kernel
theorem dX11_behindPart_29 : decode cX11_behindPart 29 = .ok (.iconst 1, 1) := by decide +kernel
theorem dX11_behindPart_30 : decode cX11_behindPart 30 = .ok (.goto 4, 3) := by decide +kernel
theorem dX11_behindPart_33 : decode cX11_behindPart 33 = .ok (.iconst 0, 1) := by decide +kernel
theorem dX11_behindPart_34 : decode cX11_behindPart 34 = .ok (.ireturn, 1) := by decide +kernel
theorem dX11_behindPart_35 : decode cX11_behindPart 35 = .ok (.aload_n 0, 1) := by decide +kernel
theorem dX11_behindPart_36 : decode cX11_behindPart 36 = .ok (.getfield 576, 3) := by decide +kernel
theorem dX11_behindPart_39 : decode cX11_behindPart 39 = .ok (.ifCond .ne 31, 3) := by decide +kernel
theorem dX11_behindPart_42 : decode cX11_behindPart 42 = .ok (.aload_n 0, 1) := by decide +kernel
theorem dX11_behindPart_43 : decode cX11_behindPart 43 = .ok (.getfield 13, 3) := by decide +kernel
theorem dX11_behindPart_46 : decode cX11_behindPart 46 = .ok (.aload_n 0, 1) := by decide +kernel
theorem dX11_behindPart_47 : decode cX11_behindPart 47 = .ok (.getfield 366, 3) := by decide +kernel
theorem dX11_behindPart_50 : decode cX11_behindPart 50 = .ok (.iaload, 1) := by decide +kernel
theorem dX11_behindPart_51 : decode cX11_behindPart 51 = .ok (.ifCond .eq 17, 3) := by decide +kernel
theorem dX11_behindPart_54 : decode cX11_behindPart 54 = .ok (.aload_n 0, 1) := by decide +kernel
theorem dX11_behindPart_55 : decode cX11_behindPart 55 = .ok (.iconst 2, 1) := by decide +kernel
theorem dX11_behindPart_56 : decode cX11_behindPart 56 = .ok (.aload_n 0, 1) := by decide +kernel
theorem dX11_behindPart_57 : decode cX11_behindPart 57 = .ok (.getfield 16, 3) := by decide +kernel
theorem dX11_behindPart_60 : decode cX11_behindPart 60 = .ok (.aload_n 0, 1) := by decide +kernel
theorem dX11_behindPart_61 : decode cX11_behindPart 61 = .ok (.getfield 366, 3) := by decide +kernel
theorem dX11_behindPart_64 : decode cX11_behindPart 64 = .ok (.iaload, 1) := by decide +kernel
theorem dX11_behindPart_65 : decode cX11_behindPart 65 = .ok (.invokevirtual 369, 3) := by decide +kernel
theorem dX11_behindPart_68 : decode cX11_behindPart 68 = .ok (.iconst 0, 1) := by decide +kernel
theorem dX11_behindPart_69 : decode cX11_behindPart 69 = .ok (.ireturn, 1) := by decide +kernel
theorem dX11_behindPart_70 : decode cX11_behindPart 70 = .ok (.aload_n 0, 1) := by decide +kernel
theorem dX11_behindPart_71 : decode cX11_behindPart 71 = .ok (.getfield 150, 3) := by decide +kernel
theorem dX11_behindPart_74 : decode cX11_behindPart 74 = .ok (.aload_n 0, 1) := by decide +kernel
theorem dX11_behindPart_75 : decode cX11_behindPart 75 = .ok (.getfield 576, 3) := by decide +kernel
theorem dX11_behindPart_78 : decode cX11_behindPart 78 = .ok (.iconst 1, 1) := by decide +kernel
theorem dX11_behindPart_79 : decode cX11_behindPart 79 = .ok (.isub, 1) := by decide +kernel
theorem dX11_behindPart_80 : decode cX11_behindPart 80 = .ok (.iaload, 1) := by decide +kernel
theorem dX11_behindPart_81 : decode cX11_behindPart 81 = .ok (.istore_n 1, 1) := by decide +kernel
theorem dX11_behindPart_82 : decode cX11_behindPart 82 = .ok (.aload_n 0, 1) := by decide +kernel
theorem dX11_behindPart_83 : decode cX11_behindPart 83 = .ok (.iload_n 1, 1) := by decide +kernel
theorem dX11_behindPart_84 : decode cX11_behindPart 84 = .ok (.invokevirtual 648, 3) := by decide +kernel
theorem dX11_behindPart_87 : decode cX11_behindPart 87 = .ok (.ifCond .eq 10, 3) := by decide +kernel
theorem dX11_behindPart_90 : decode cX11_behindPart 90 = .ok (.aload_n 0, 1) := by decide +kernel
theorem dX11_behindPart_91 : decode cX11_behindPart 91 = .ok (.iload_n 1, 1) := by decide +kernel
theorem dX11_behindPart_92 : decode cX11_behindPart 92 = .ok (.invokevirtual 642, 3) := by decide +kernel
theorem dX11_behindPart_95 : decode cX11_behindPart 95 = .ok (.iconst 1, 1) := by decide +kernel
theorem dX11_behindPart_96 : decode cX11_behindPart 96 = .ok (.ireturn, 1) := by decide +kernel
theorem dX11_behindPart_97 : decode cX11_behindPart 97 = .ok (.aload_n 0, 1) := by decide +kernel
theorem dX11_behindPart_98 : decode cX11_behindPart 98 = .ok (.getfield 360, 3) := by decide +kernel
theorem dX11_behindPart_101 : decode cX11_behindPart 101 = .ok (.ifCond .ne 46, 3) := by decide +kernel
theorem dX11_behindPart_104 : decode cX11_behindPart 104 = .ok (.aload_n 0, 1) := by decide +kernel
theorem dX11_behindPart_105 : decode cX11_behindPart 105 = .ok (.dup, 1) := by decide +kernel
theorem dX11_behindPart_106 : decode cX11_behindPart 106 = .ok (.getfield 486, 3) := by decide +kernel
theorem dX11_behindPart_109 : decode cX11_behindPart 109 = .ok (.iconst 1, 1) := by decide +kernel
theorem dX11_behindPart_110 : decode cX11_behindPart 110 = .ok (.isub, 1) := by decide +kernel
theorem dX11_behindPart_111 : decode cX11_behindPart 111 = .ok (.putfield 486, 3) := by decide +kernel
theorem dX11_behindPart_114 : decode cX11_behindPart 114 = .ok (.aload_n 0, 1) := by decide +kernel
theorem dX11_behindPart_115 : decode cX11_behindPart 115 = .ok (.dup, 1) := by decide +kernel
theorem dX11_behindPart_116 : decode cX11_behindPart 116 = .ok (.getfield 576, 3) := by decide +kernel
theorem dX11_behindPart_119 : decode cX11_behindPart 119 = .ok (.iconst 1, 1) := by decide +kernel
theorem dX11_behindPart_120 : decode cX11_behindPart 120 = .ok (.isub, 1) := by decide +kernel
theorem dX11_behindPart_121 : decode cX11_behindPart 121 = .ok (.putfield 576, 3) := by decide +kernel
theorem dX11_behindPart_124 : decode cX11_behindPart 124 = .ok (.aload_n 0, 1) := by decide +kernel
theorem dX11_behindPart_125 : decode cX11_behindPart 125 = .ok (.getfield 135, 3) := by decide +kernel
theorem dX11_behindPart_128 : decode cX11_behindPart 128 = .ok (.iload_n 1, 1) := by decide +kernel
theorem dX11_behindPart_129 : decode cX11_behindPart 129 = .ok (.bipush 40, 2) := by decide +kernel
theorem dX11_behindPart_131 : decode cX11_behindPart 131 = .ok (.aload_n 0, 1) := by decide +kernel
theorem dX11_behindPart_132 : decode cX11_behindPart 132 = .ok (.getfield 450, 3) := by decide +kernel
theorem dX11_behindPart_135 : decode cX11_behindPart 135 = .ok (.imul, 1) := by decide +kernel
theorem dX11_behindPart_136 : decode cX11_behindPart 136 = .ok (.aload_n 0, 1) := by decide +kernel
theorem dX11_behindPart_137 : decode cX11_behindPart 137 = .ok (.getfield 84, 3) := by decide +kernel
theorem dX11_behindPart_140 : decode cX11_behindPart 140 = .ok (.aload_n 0, 1) := by decide +kernel
theorem dX11_behindPart_141 : decode cX11_behindPart 141 = .ok (.getfield 450, 3) := by decide +kernel
theorem dX11_behindPart_144 : decode cX11_behindPart 144 = .ok (.iaload, 1) := by decide +kernel
theorem dX11_behindPart_145 : decode cX11_behindPart 145 = .ok (.iadd, 1) := by decide +kernel
theorem dX11_behindPart_146 : decode cX11_behindPart 146 = .ok (.iastore, 1) := by decide +kernel
theorem dX11_behindPart_147 : decode cX11_behindPart 147 = .ok (.goto (-147), 3) := by decide +kernel
theorem dX11_behindPart_150 : decode cX11_behindPart 150 = .ok (.iconst 0, 1) := by decide +kernel
theorem dX11_behindPart_151 : decode cX11_behindPart 151 = .ok (.ireturn, 1) := by decide +kernel
theorem dX11_node_0 : decode cX11_node 0 = .ok (.sipush 700, 3) := by decide +kernel
theorem dX11_node_3 : decode cX11_node 3 = .ok (.aload_n 0, 1) := by decide +kernel
theorem dX11_node_4 : decode cX11_node 4 = .ok (.getfield 450, 3) := by decide +kernel
theorem dX11_node_7 : decode cX11_node 7 = .ok (.imul, 1) := by decide +kernel
theorem dX11_node_8 : decode cX11_node 8 = .ok (.aload_n 0, 1) := by decide +kernel
theorem dX11_node_9 : decode cX11_node 9 = .ok (.getfield 159, 3) := by decide +kernel
theorem dX11_node_12 : decode cX11_node 12 = .ok (.aload_n 0, 1) := by decide +kernel
theorem dX11_node_13 : decode cX11_node 13 = .ok (.getfield 450, 3) := by decide +kernel
theorem dX11_node_16 : decode cX11_node 16 = .ok (.iaload, 1) := by decide +kernel
theorem dX11_node_17 : decode cX11_node 17 = .ok (.iadd, 1) := by decide +kernel
theorem dX11_node_18 : decode cX11_node 18 = .ok (.istore_n 3, 1) := by decide +kernel
theorem dX11_node_19 : decode cX11_node 19 = .ok (.aload_n 0, 1) := by decide +kernel
theorem dX11_node_20 : decode cX11_node 20 = .ok (.getfield 159, 3) := by decide +kernel
theorem dX11_node_23 : decode cX11_node 23 = .ok (.aload_n 0, 1) := by decide +kernel
theorem dX11_node_24 : decode cX11_node 24 = .ok (.getfield 450, 3) := by decide +kernel
theorem dX11_node_27 : decode cX11_node 27 = .ok (.dup2, 1) := by decide +kernel
theorem dX11_node_28 : decode cX11_node 28 = .ok (.iaload, 1) := by decide +kernel
theorem dX11_node_29 : decode cX11_node 29 = .ok (.iconst 1, 1) := by decide +kernel
theorem dX11_node_30 : decode cX11_node 30 = .ok (.iadd, 1) := by decide +kernel
theorem dX11_node_31 : decode cX11_node 31 = .ok (.iastore, 1) := by decide +kernel
theorem dX11_node_32 : decode cX11_node 32 = .ok (.aload_n 0, 1) := by decide +kernel
theorem dX11_node_33 : decode cX11_node 33 = .ok (.getfield 162, 3) := by decide +kernel
theorem dX11_node_36 : decode cX11_node 36 = .ok (.iload_n 3, 1) := by decide +kernel
theorem dX11_node_37 : decode cX11_node 37 = .ok (.iload_n 1, 1) := by decide +kernel
theorem dX11_node_38 : decode cX11_node 38 = .ok (.iastore, 1) := by decide +kernel
theorem dX11_node_39 : decode cX11_node 39 = .ok (.aload_n 0, 1) := by decide +kernel
theorem dX11_node_40 : decode cX11_node 40 = .ok (.getfield 165, 3) := by decide +kernel
theorem dX11_node_43 : decode cX11_node 43 = .ok (.iload_n 3, 1) := by decide +kernel
theorem dX11_node_44 : decode cX11_node 44 = .ok (.iload_n 2, 1) := by decide +kernel
theorem dX11_node_45 : decode cX11_node 45 = .ok (.iastore, 1) := by decide +kernel
theorem dX11_node_46 : decode cX11_node 46 = .ok (.aload_n 0, 1) := by decide +kernel
theorem dX11_node_47 : decode cX11_node 47 = .ok (.getfield 168, 3) := by decide +kernel
theorem dX11_node_50 : decode cX11_node 50 = .ok (.iload_n 3, 1) := by decide +kernel
theorem dX11_node_51 : decode cX11_node 51 = .ok (.iconst (-1), 1) := by decide +kernel
theorem dX11_node_52 : decode cX11_node 52 = .ok (.iastore, 1) := by decide +kernel
theorem dX11_node_53 : decode cX11_node 53 = .ok (.aload_n 0, 1) := by decide +kernel
theorem dX11_node_54 : decode cX11_node 54 = .ok (.getfield 171, 3) := by decide +kernel
theorem dX11_node_57 : decode cX11_node 57 = .ok (.iload_n 3, 1) := by decide +kernel
theorem dX11_node_58 : decode cX11_node 58 = .ok (.iconst (-1), 1) := by decide +kernel
theorem dX11_node_59 : decode cX11_node 59 = .ok (.iastore, 1) := by decide +kernel
theorem dX11_node_60 : decode cX11_node 60 = .ok (.aload_n 0, 1) := by decide +kernel
theorem dX11_node_61 : decode cX11_node 61 = .ok (.getfield 174, 3) := by decide +kernel
theorem dX11_node_64 : decode cX11_node 64 = .ok (.iload_n 3, 1) := by decide +kernel
theorem dX11_node_65 : decode cX11_node 65 = .ok (.iconst (-1), 1) := by decide +kernel
theorem dX11_node_66 : decode cX11_node 66 = .ok (.iastore, 1) := by decide +kernel
theorem dX11_node_67 : decode cX11_node 67 = .ok (.aload_n 0, 1) := by decide +kernel
theorem dX11_node_68 : decode cX11_node 68 = .ok (.getfield 177, 3) := by decide +kernel
theorem dX11_node_71 : decode cX11_node 71 = .ok (.iload_n 3, 1) := by decide +kernel
theorem dX11_node_72 : decode cX11_node 72 = .ok (.iconst (-1), 1) := by decide +kernel
theorem dX11_node_73 : decode cX11_node 73 = .ok (.iastore, 1) := by decide +kernel
theorem dX11_node_74 : decode cX11_node 74 = .ok (.aload_n 0, 1) := by decide +kernel
theorem dX11_node_75 : decode cX11_node 75 = .ok (.getfield 180, 3) := by decide +kernel
theorem dX11_node_78 : decode cX11_node 78 = .ok (.iload_n 3, 1) := by decide +kernel
theorem dX11_node_79 : decode cX11_node 79 = .ok (.iconst (-1), 1) := by decide +kernel
theorem dX11_node_80 : decode cX11_node 80 = .ok (.iastore, 1) := by decide +kernel
theorem dX11_node_81 : decode cX11_node 81 = .ok (.aload_n 0, 1) := by decide +kernel
theorem dX11_node_82 : decode cX11_node 82 = .ok (.getfield 183, 3) := by decide +kernel
theorem dX11_node_85 : decode cX11_node 85 = .ok (.iload_n 3, 1) := by decide +kernel
theorem dX11_node_86 : decode cX11_node 86 = .ok (.iconst 0, 1) := by decide +kernel
theorem dX11_node_87 : decode cX11_node 87 = .ok (.iastore, 1) := by decide +kernel
theorem dX11_node_88 : decode cX11_node 88 = .ok (.aload_n 0, 1) := by decide +kernel
theorem dX11_node_89 : decode cX11_node 89 = .ok (.getfield 186, 3) := by decide +kernel
theorem dX11_node_92 : decode cX11_node 92 = .ok (.iload_n 3, 1) := by decide +kernel
theorem dX11_node_93 : decode cX11_node 93 = .ok (.iconst 0, 1) := by decide +kernel
theorem dX11_node_94 : decode cX11_node 94 = .ok (.iastore, 1) := by decide +kernel
theorem dX11_node_95 : decode cX11_node 95 = .ok (.aload_n 0, 1) := by decide +kernel
theorem dX11_node_96 : decode cX11_node 96 = .ok (.getfield 189, 3) := by decide +kernel
theorem dX11_node_99 : decode cX11_node 99 = .ok (.iload_n 3, 1) := by decide +kernel
theorem dX11_node_100 : decode cX11_node 100 = .ok (.iconst 0, 1) := by decide +kernel
theorem dX11_node_101 : decode cX11_node 101 = .ok (.iastore, 1) := by decide +kernel
theorem dX11_node_102 : decode cX11_node 102 = .ok (.iload_n 3, 1) := by decide +kernel
theorem dX11_node_103 : decode cX11_node 103 = .ok (.ireturn, 1) := by decide +kernel
theorem dX11_adopt_0 : decode cX11_adopt 0 = .ok (.aload_n 0, 1) := by decide +kernel
theorem dX11_adopt_1 : decode cX11_adopt 1 = .ok (.getfield 168, 3) := by decide +kernel
theorem dX11_adopt_4 : decode cX11_adopt 4 = .ok (.iload_n 1, 1) := by decide +kernel
theorem dX11_adopt_5 : decode cX11_adopt 5 = .ok (.iaload, 1) := by decide +kernel
theorem dX11_adopt_6 : decode cX11_adopt 6 = .ok (.iconst (-1), 1) := by decide +kernel
theorem dX11_adopt_7 : decode cX11_adopt 7 = .ok (.if_icmp .ne 13, 3) := by decide +kernel
theorem dX11_adopt_10 : decode cX11_adopt 10 = .ok (.aload_n 0, 1) := by decide +kernel
theorem dX11_adopt_11 : decode cX11_adopt 11 = .ok (.getfield 168, 3) := by decide +kernel
theorem dX11_adopt_14 : decode cX11_adopt 14 = .ok (.iload_n 1, 1) := by decide +kernel
theorem dX11_adopt_15 : decode cX11_adopt 15 = .ok (.iload_n 2, 1) := by decide +kernel
theorem dX11_adopt_16 : decode cX11_adopt 16 = .ok (.iastore, 1) := by decide +kernel
theorem dX11_adopt_17 : decode cX11_adopt 17 = .ok (.goto 27, 3) := by decide +kernel
theorem dX11_adopt_20 : decode cX11_adopt 20 = .ok (.aload_n 0, 1) := by decide +kernel
theorem dX11_adopt_21 : decode cX11_adopt 21 = .ok (.getfield 174, 3) := by decide +kernel
theorem dX11_adopt_24 : decode cX11_adopt 24 = .ok (.aload_n 0, 1) := by decide +kernel
theorem dX11_adopt_25 : decode cX11_adopt 25 = .ok (.getfield 171, 3) := by decide +kernel
theorem dX11_adopt_28 : decode cX11_adopt 28 = .ok (.iload_n 1, 1) := by decide +kernel
theorem dX11_adopt_29 : decode cX11_adopt 29 = .ok (.iaload, 1) := by decide +kernel
theorem dX11_adopt_30 : decode cX11_adopt 30 = .ok (.iload_n 2, 1) := by decide +kernel
theorem dX11_adopt_31 : decode cX11_adopt 31 = .ok (.iastore, 1) := by decide +kernel
theorem dX11_adopt_32 : decode cX11_adopt 32 = .ok (.aload_n 0, 1) := by decide +kernel
theorem dX11_adopt_33 : decode cX11_adopt 33 = .ok (.getfield 177, 3) := by decide +kernel
theorem dX11_adopt_36 : decode cX11_adopt 36 = .ok (.iload_n 2, 1) := by decide +kernel
theorem dX11_adopt_37 : decode cX11_adopt 37 = .ok (.aload_n 0, 1) := by decide +kernel
theorem dX11_adopt_38 : decode cX11_adopt 38 = .ok (.getfield 171, 3) := by decide +kernel
theorem dX11_adopt_41 : decode cX11_adopt 41 = .ok (.iload_n 1, 1) := by decide +kernel
theorem dX11_adopt_42 : decode cX11_adopt 42 = .ok (.iaload, 1) := by decide +kernel
theorem dX11_adopt_43 : decode cX11_adopt 43 = .ok (.iastore, 1) := by decide +kernel
theorem dX11_adopt_44 : decode cX11_adopt 44 = .ok (.aload_n 0, 1) := by decide +kernel
theorem dX11_adopt_45 : decode cX11_adopt 45 = .ok (.getfield 171, 3) := by decide +kernel
theorem dX11_adopt_48 : decode cX11_adopt 48 = .ok (.iload_n 1, 1) := by decide +kernel
theorem dX11_adopt_49 : decode cX11_adopt 49 = .ok (.iload_n 2, 1) := by decide +kernel
theorem dX11_adopt_50 : decode cX11_adopt 50 = .ok (.iastore, 1) := by decide +kernel
theorem dX11_adopt_51 : decode cX11_adopt 51 = .ok (.aload_n 0, 1) := by decide +kernel
theorem dX11_adopt_52 : decode cX11_adopt 52 = .ok (.getfield 180, 3) := by decide +kernel
theorem dX11_adopt_55 : decode cX11_adopt 55 = .ok (.iload_n 2, 1) := by decide +kernel
theorem dX11_adopt_56 : decode cX11_adopt 56 = .ok (.iload_n 1, 1) := by decide +kernel
theorem dX11_adopt_57 : decode cX11_adopt 57 = .ok (.iastore, 1) := by decide +kernel
theorem dX11_adopt_58 : decode cX11_adopt 58 = .ok (.return_, 1) := by decide +kernel
theorem dX11_over_0 : decode cX11_over 0 = .ok (.aload_n 0, 1) := by decide +kernel
theorem dX11_over_1 : decode cX11_over 1 = .ok (.iload_n 1, 1) := by decide +kernel
theorem dX11_over_2 : decode cX11_over 2 = .ok (.iload_n 2, 1) := by decide +kernel
theorem dX11_over_3 : decode cX11_over 3 = .ok (.invokevirtual 651, 3) := by decide +kernel
theorem dX11_over_6 : decode cX11_over 6 = .ok (.istore 5, 2) := by decide +kernel
theorem dX11_over_8 : decode cX11_over 8 = .ok (.aload_n 0, 1) := by decide +kernel
theorem dX11_over_9 : decode cX11_over 9 = .ok (.iload 5, 2) := by decide +kernel
theorem dX11_over_11 : decode cX11_over 11 = .ok (.iload_n 3, 1) := by decide +kernel
theorem dX11_over_12 : decode cX11_over 12 = .ok (.invokevirtual 655, 3) := by decide +kernel
theorem dX11_over_15 : decode cX11_over 15 = .ok (.iload 4, 2) := by decide +kernel
theorem dX11_over_17 : decode cX11_over 17 = .ok (.iconst (-1), 1) := by decide +kernel
theorem dX11_over_18 : decode cX11_over 18 = .ok (.if_icmp .eq 11, 3) := by decide +kernel
theorem dX11_over_21 : decode cX11_over 21 = .ok (.aload_n 0, 1) := by decide +kernel
theorem dX11_over_22 : decode cX11_over 22 = .ok (.iload 5, 2) := by decide +kernel
theorem dX11_over_24 : decode cX11_over 24 = .ok (.iload 4, 2) := by decide +kernel
theorem dX11_over_26 : decode cX11_over 26 = .ok (.invokevirtual 655, 3) := by decide +kernel
theorem dX11_over_29 : decode cX11_over 29 = .ok (.iload 5, 2) := by decide +kernel
theorem dX11_over_31 : decode cX11_over 31 = .ok (.ireturn, 1) := by decide +kernel
theorem dX11_rowNode_0 : decode cX11_rowNode 0 = .ok (.aload_n 0, 1) := by decide +kernel
theorem dX11_rowNode_1 : decode cX11_rowNode 1 = .ok (.getfield 141, 3) := by decide +kernel
theorem dX11_rowNode_4 : decode cX11_rowNode 4 = .ok (.iload_n 1, 1) := by decide +kernel
theorem dX11_rowNode_5 : decode cX11_rowNode 5 = .ok (.iaload, 1) := by decide +kernel
theorem dX11_rowNode_6 : decode cX11_rowNode 6 = .ok (.istore_n 2, 1) := by decide +kernel
theorem dX11_rowNode_7 : decode cX11_rowNode 7 = .ok (.aload_n 0, 1) := by decide +kernel
theorem dX11_rowNode_8 : decode cX11_rowNode 8 = .ok (.getfield 132, 3) := by decide +kernel
theorem dX11_rowNode_11 : decode cX11_rowNode 11 = .ok (.iload_n 2, 1) := by decide +kernel
theorem dX11_rowNode_12 : decode cX11_rowNode 12 = .ok (.iaload, 1) := by decide +kernel
theorem dX11_rowNode_13 : decode cX11_rowNode 13 = .ok (.iconst (-1), 1) := by decide +kernel
theorem dX11_rowNode_14 : decode cX11_rowNode 14 = .ok (.if_icmp .ne 10, 3) := by decide +kernel
theorem dX11_rowNode_17 : decode cX11_rowNode 17 = .ok (.aload_n 0, 1) := by decide +kernel
theorem dX11_rowNode_18 : decode cX11_rowNode 18 = .ok (.getfield 192, 3) := by decide +kernel
theorem dX11_rowNode_21 : decode cX11_rowNode 21 = .ok (.iload_n 2, 1) := by decide +kernel
theorem dX11_rowNode_22 : decode cX11_rowNode 22 = .ok (.iaload, 1) := by decide +kernel
theorem dX11_rowNode_23 : decode cX11_rowNode 23 = .ok (.ireturn, 1) := by decide +kernel
theorem dX11_rowNode_24 : decode cX11_rowNode 24 = .ok (.aload_n 0, 1) := by decide +kernel
theorem dX11_rowNode_25 : decode cX11_rowNode 25 = .ok (.bipush 6, 2) := by decide +kernel
theorem dX11_rowNode_27 : decode cX11_rowNode 27 = .ok (.iconst (-1), 1) := by decide +kernel
theorem dX11_rowNode_28 : decode cX11_rowNode 28 = .ok (.invokevirtual 651, 3) := by decide +kernel
theorem dX11_rowNode_31 : decode cX11_rowNode 31 = .ok (.istore_n 3, 1) := by decide +kernel
theorem dX11_rowNode_32 : decode cX11_rowNode 32 = .ok (.iload_n 2, 1) := by decide +kernel
theorem dX11_rowNode_33 : decode cX11_rowNode 33 = .ok (.iconst (-1), 1) := by decide +kernel
theorem dX11_rowNode_34 : decode cX11_rowNode 34 = .ok (.if_icmp .eq 24, 3) := by decide +kernel
theorem dX11_rowNode_37 : decode cX11_rowNode 37 = .ok (.aload_n 0, 1) := by decide +kernel
theorem dX11_rowNode_38 : decode cX11_rowNode 38 = .ok (.iload_n 3, 1) := by decide +kernel
theorem dX11_rowNode_39 : decode cX11_rowNode 39 = .ok (.aload_n 0, 1) := by decide +kernel
theorem dX11_rowNode_40 : decode cX11_rowNode 40 = .ok (.getfield 192, 3) := by decide +kernel
theorem dX11_rowNode_43 : decode cX11_rowNode 43 = .ok (.iload_n 2, 1) := by decide +kernel
theorem dX11_rowNode_44 : decode cX11_rowNode 44 = .ok (.iaload, 1) := by decide +kernel
theorem dX11_rowNode_45 : decode cX11_rowNode 45 = .ok (.invokevirtual 655, 3) := by decide +kernel
theorem dX11_rowNode_48 : decode cX11_rowNode 48 = .ok (.aload_n 0, 1) := by decide +kernel
theorem dX11_rowNode_49 : decode cX11_rowNode 49 = .ok (.getfield 132, 3) := by decide +kernel
theorem dX11_rowNode_52 : decode cX11_rowNode 52 = .ok (.iload_n 2, 1) := by decide +kernel
theorem dX11_rowNode_53 : decode cX11_rowNode 53 = .ok (.iaload, 1) := by decide +kernel
theorem dX11_rowNode_54 : decode cX11_rowNode 54 = .ok (.istore_n 2, 1) := by decide +kernel
theorem dX11_rowNode_55 : decode cX11_rowNode 55 = .ok (.goto (-23), 3) := by decide +kernel
theorem dX11_rowNode_58 : decode cX11_rowNode 58 = .ok (.iload_n 3, 1) := by decide +kernel
theorem dX11_rowNode_59 : decode cX11_rowNode 59 = .ok (.ireturn, 1) := by decide +kernel
theorem dX11_watch_0 : decode cX11_watch 0 = .ok (.aload_n 0, 1) := by decide +kernel
theorem dX11_watch_1 : decode cX11_watch 1 = .ok (.iconst 2, 1) := by decide +kernel
theorem dX11_watch_2 : decode cX11_watch 2 = .ok (.iconst (-1), 1) := by decide +kernel
theorem dX11_watch_3 : decode cX11_watch 3 = .ok (.invokevirtual 651, 3) := by decide +kernel
theorem dX11_watch_6 : decode cX11_watch 6 = .ok (.istore_n 3, 1) := by decide +kernel
theorem dX11_watch_7 : decode cX11_watch 7 = .ok (.aload_n 0, 1) := by decide +kernel
theorem dX11_watch_8 : decode cX11_watch 8 = .ok (.iconst 4, 1) := by decide +kernel
theorem dX11_watch_9 : decode cX11_watch 9 = .ok (.iload_n 1, 1) := by decide +kernel
theorem dX11_watch_10 : decode cX11_watch 10 = .ok (.aload_n 0, 1) := by decide +kernel
theorem dX11_watch_11 : decode cX11_watch 11 = .ok (.iconst 3, 1) := by decide +kernel
theorem dX11_watch_12 : decode cX11_watch 12 = .ok (.iconst (-1), 1) := by decide +kernel
theorem dX11_watch_13 : decode cX11_watch 13 = .ok (.invokevirtual 651, 3) := by decide +kernel
theorem dX11_watch_16 : decode cX11_watch 16 = .ok (.iconst (-1), 1) := by decide +kernel
theorem dX11_watch_17 : decode cX11_watch 17 = .ok (.invokevirtual 658, 3) := by decide +kernel
theorem dX11_watch_20 : decode cX11_watch 20 = .ok (.istore 4, 2) := by decide +kernel
theorem dX11_watch_22 : decode cX11_watch 22 = .ok (.aload_n 0, 1) := by decide +kernel
theorem dX11_watch_23 : decode cX11_watch 23 = .ok (.bipush 7, 2) := by decide +kernel
theorem dX11_watch_25 : decode cX11_watch 25 = .ok (.iconst (-1), 1) := by decide +kernel
theorem dX11_watch_26 : decode cX11_watch 26 = .ok (.aload_n 0, 1) := by decide +kernel
theorem dX11_watch_27 : decode cX11_watch 27 = .ok (.bipush 6, 2) := by decide +kernel
theorem dX11_watch_29 : decode cX11_watch 29 = .ok (.iconst (-1), 1) := by decide +kernel
theorem dX11_watch_30 : decode cX11_watch 30 = .ok (.iload_n 2, 1) := by decide +kernel
theorem dX11_watch_31 : decode cX11_watch 31 = .ok (.ifCond .eq 8, 3) := by decide +kernel
theorem dX11_watch_34 : decode cX11_watch 34 = .ok (.iload 4, 2) := by decide +kernel
theorem dX11_watch_36 : decode cX11_watch 36 = .ok (.goto 4, 3) := by decide +kernel
theorem dX11_watch_39 : decode cX11_watch 39 = .ok (.iload_n 3, 1) := by decide +kernel
theorem dX11_watch_40 : decode cX11_watch 40 = .ok (.iload_n 2, 1) := by decide +kernel
theorem dX11_watch_41 : decode cX11_watch 41 = .ok (.ifCond .eq 7, 3) := by decide +kernel
theorem dX11_watch_44 : decode cX11_watch 44 = .ok (.iload_n 3, 1) := by decide +kernel
theorem dX11_watch_45 : decode cX11_watch 45 = .ok (.goto 5, 3) := by decide +kernel
theorem dX11_watch_48 : decode cX11_watch 48 = .ok (.iload 4, 2) := by decide +kernel
theorem dX11_watch_50 : decode cX11_watch 50 = .ok (.invokevirtual 658, 3) := by decide +kernel
theorem dX11_watch_53 : decode cX11_watch 53 = .ok (.iconst (-1), 1) := by decide +kernel
theorem dX11_watch_54 : decode cX11_watch 54 = .ok (.invokevirtual 658, 3) := by decide +kernel
theorem dX11_watch_57 : decode cX11_watch 57 = .ok (.ireturn, 1) := by decide +kernel
theorem dX11_awaiting_0 : decode cX11_awaiting 0 = .ok (.aload_n 0, 1) := by decide +kernel
theorem dX11_awaiting_1 : decode cX11_awaiting 1 = .ok (.bipush 10, 2) := by decide +kernel
theorem dX11_awaiting_3 : decode cX11_awaiting 3 = .ok (.iconst (-1), 1) := by decide +kernel
theorem dX11_awaiting_4 : decode cX11_awaiting 4 = .ok (.aload_n 0, 1) := by decide +kernel
theorem dX11_awaiting_5 : decode cX11_awaiting 5 = .ok (.iload_n 1, 1) := by decide +kernel
theorem dX11_awaiting_6 : decode cX11_awaiting 6 = .ok (.iload_n 2, 1) := by decide +kernel
theorem dX11_awaiting_7 : decode cX11_awaiting 7 = .ok (.invokevirtual 662, 3) := by decide +kernel
theorem dX11_awaiting_10 : decode cX11_awaiting 10 = .ok (.iconst (-1), 1) := by decide +kernel
theorem dX11_awaiting_11 : decode cX11_awaiting 11 = .ok (.invokevirtual 658, 3) := by decide +kernel
theorem dX11_awaiting_14 : decode cX11_awaiting 14 = .ok (.ireturn, 1) := by decide +kernel
theorem dX11_aborting_0 : decode cX11_aborting 0 = .ok (.iload_n 3, 1) := by decide +kernel
theorem dX11_aborting_1 : decode cX11_aborting 1 = .ok (.ifCond .eq 7, 3) := by decide +kernel
theorem dX11_aborting_4 : decode cX11_aborting 4 = .ok (.iload_n 2, 1) := by decide +kernel
theorem dX11_aborting_5 : decode cX11_aborting 5 = .ok (.goto 12, 3) := by decide +kernel
theorem dX11_aborting_8 : decode cX11_aborting 8 = .ok (.aload_n 0, 1) := by decide +kernel
theorem dX11_aborting_9 : decode cX11_aborting 9 = .ok (.bipush 8, 2) := by decide +kernel
theorem dX11_aborting_11 : decode cX11_aborting 11 = .ok (.iload_n 1, 1) := by decide +kernel
theorem dX11_aborting_12 : decode cX11_aborting 12 = .ok (.iload_n 2, 1) := by decide +kernel
theorem dX11_aborting_13 : decode cX11_aborting 13 = .ok (.iconst (-1), 1) := by decide +kernel
theorem dX11_aborting_14 : decode cX11_aborting 14 = .ok (.invokevirtual 658, 3) := by decide +kernel
theorem dX11_aborting_17 : decode cX11_aborting 17 = .ok (.istore 5, 2) := by decide +kernel
theorem dX11_aborting_19 : decode cX11_aborting 19 = .ok (.aload_n 0, 1) := by decide +kernel
theorem dX11_aborting_20 : decode cX11_aborting 20 = .ok (.bipush 6, 2) := by decide +kernel
theorem dX11_aborting_22 : decode cX11_aborting 22 = .ok (.iconst (-1), 1) := by decide +kernel
theorem dX11_aborting_23 : decode cX11_aborting 23 = .ok (.iload 5, 2) := by decide +kernel
theorem dX11_aborting_25 : decode cX11_aborting 25 = .ok (.aload_n 0, 1) := by decide +kernel
theorem dX11_aborting_26 : decode cX11_aborting 26 = .ok (.iconst 3, 1) := by decide +kernel
theorem dX11_aborting_27 : decode cX11_aborting 27 = .ok (.iconst (-1), 1) := by decide +kernel
theorem dX11_aborting_28 : decode cX11_aborting 28 = .ok (.invokevirtual 651, 3) := by decide +kernel
theorem dX11_aborting_31 : decode cX11_aborting 31 = .ok (.invokevirtual 658, 3) := by decide +kernel
theorem dX11_aborting_34 : decode cX11_aborting 34 = .ok (.istore 6, 2) := by decide +kernel
theorem dX11_aborting_36 : decode cX11_aborting 36 = .ok (.aload_n 0, 1) := by decide +kernel
theorem dX11_aborting_37 : decode cX11_aborting 37 = .ok (.bipush 10, 2) := by decide +kernel
theorem dX11_aborting_39 : decode cX11_aborting 39 = .ok (.iconst (-1), 1) := by decide +kernel
theorem dX11_aborting_40 : decode cX11_aborting 40 = .ok (.aload_n 0, 1) := by decide +kernel
theorem dX11_aborting_41 : decode cX11_aborting 41 = .ok (.bipush 9, 2) := by decide +kernel
theorem dX11_aborting_43 : decode cX11_aborting 43 = .ok (.iconst (-1), 1) := by decide +kernel
theorem dX11_aborting_44 : decode cX11_aborting 44 = .ok (.iload 6, 2) := by decide +kernel
theorem dX11_aborting_46 : decode cX11_aborting 46 = .ok (.aload_n 0, 1) := by decide +kernel
theorem dX11_aborting_47 : decode cX11_aborting 47 = .ok (.iload_n 1, 1) := by decide +kernel
theorem dX11_aborting_48 : decode cX11_aborting 48 = .ok (.iload_n 3, 1) := by decide +kernel
theorem dX11_aborting_49 : decode cX11_aborting 49 = .ok (.ifCond .eq 12, 3) := by decide +kernel
theorem dX11_aborting_52 : decode cX11_aborting 52 = .ok (.iload 4, 2) := by decide +kernel
theorem dX11_aborting_54 : decode cX11_aborting 54 = .ok (.ifCond .eq 7, 3) := by decide +kernel
theorem dX11_aborting_57 : decode cX11_aborting 57 = .ok (.iconst 1, 1) := by decide +kernel
theorem dX11_aborting_58 : decode cX11_aborting 58 = .ok (.goto 4, 3) := by decide +kernel
theorem dX11_aborting_61 : decode cX11_aborting 61 = .ok (.iconst 0, 1) := by decide +kernel
theorem dX11_aborting_62 : decode cX11_aborting 62 = .ok (.invokevirtual 662, 3) := by decide +kernel
theorem dX11_aborting_65 : decode cX11_aborting 65 = .ok (.invokevirtual 658, 3) := by decide +kernel
theorem dX11_aborting_68 : decode cX11_aborting 68 = .ok (.iconst (-1), 1) := by decide +kernel
theorem dX11_aborting_69 : decode cX11_aborting 69 = .ok (.invokevirtual 658, 3) := by decide +kernel
theorem dX11_aborting_72 : decode cX11_aborting 72 = .ok (.ireturn, 1) := by decide +kernel
theorem dX11_halting_0 : decode cX11_halting 0 = .ok (.aload_n 0, 1) := by decide +kernel
theorem dX11_halting_1 : decode cX11_halting 1 = .ok (.bipush 7, 2) := by decide +kernel
theorem dX11_halting_3 : decode cX11_halting 3 = .ok (.iconst (-1), 1) := by decide +kernel
theorem dX11_halting_4 : decode cX11_halting 4 = .ok (.aload_n 0, 1) := by decide +kernel
theorem dX11_halting_5 : decode cX11_halting 5 = .ok (.iconst 2, 1) := by decide +kernel
theorem dX11_halting_6 : decode cX11_halting 6 = .ok (.iconst (-1), 1) := by decide +kernel
theorem dX11_halting_7 : decode cX11_halting 7 = .ok (.invokevirtual 651, 3) := by decide +kernel
theorem dX11_halting_10 : decode cX11_halting 10 = .ok (.iconst (-1), 1) := by decide +kernel
theorem dX11_halting_11 : decode cX11_halting 11 = .ok (.invokevirtual 658, 3) := by decide +kernel
theorem dX11_halting_14 : decode cX11_halting 14 = .ok (.ireturn, 1) := by decide +kernel
theorem dX11_everying_0 : decode cX11_everying 0 = .ok (.aload_n 0, 1) := by decide +kernel
theorem dX11_everying_1 : decode cX11_everying 1 = .ok (.iload_n 1, 1) := by decide +kernel
theorem dX11_everying_2 : decode cX11_everying 2 = .ok (.aload_n 0, 1) := by decide +kernel
theorem dX11_everying_3 : decode cX11_everying 3 = .ok (.getfield 105, 3) := by decide +kernel
theorem dX11_everying_6 : decode cX11_everying 6 = .ok (.iload_n 1, 1) := by decide +kernel
theorem dX11_everying_7 : decode cX11_everying 7 = .ok (.baload, 1) := by decide +kernel
theorem dX11_everying_8 : decode cX11_everying 8 = .ok (.invokevirtual 666, 3) := by decide +kernel
theorem dX11_everying_11 : decode cX11_everying 11 = .ok (.istore_n 3, 1) := by decide +kernel
theorem dX11_everying_12 : decode cX11_everying 12 = .ok (.aload_n 0, 1) := by decide +kernel
theorem dX11_everying_13 : decode cX11_everying 13 = .ok (.bipush 7, 2) := by decide +kernel
theorem dX11_everying_15 : decode cX11_everying 15 = .ok (.iconst (-1), 1) := by decide +kernel
theorem dX11_everying_16 : decode cX11_everying 16 = .ok (.aload_n 0, 1) := by decide +kernel
theorem dX11_everying_17 : decode cX11_everying 17 = .ok (.iload_n 1, 1) := by decide +kernel
theorem dX11_everying_18 : decode cX11_everying 18 = .ok (.aload_n 0, 1) := by decide +kernel
theorem dX11_everying_19 : decode cX11_everying 19 = .ok (.bipush 6, 2) := by decide +kernel
theorem dX11_everying_21 : decode cX11_everying 21 = .ok (.iconst (-1), 1) := by decide +kernel
theorem dX11_everying_22 : decode cX11_everying 22 = .ok (.iload_n 2, 1) := by decide +kernel
theorem dX11_everying_23 : decode cX11_everying 23 = .ok (.aload_n 0, 1) := by decide +kernel
theorem dX11_everying_24 : decode cX11_everying 24 = .ok (.invokevirtual 669, 3) := by decide +kernel
theorem dX11_everying_27 : decode cX11_everying 27 = .ok (.invokevirtual 658, 3) := by decide +kernel
theorem dX11_everying_30 : decode cX11_everying 30 = .ok (.iconst 0, 1) := by decide +kernel
theorem dX11_everying_31 : decode cX11_everying 31 = .ok (.iconst 0, 1) := by decide +kernel
theorem dX11_everying_32 : decode cX11_everying 32 = .ok (.invokevirtual 672, 3) := by decide +kernel
theorem dX11_everying_35 : decode cX11_everying 35 = .ok (.iconst (-1), 1) := by decide +kernel
theorem dX11_everying_36 : decode cX11_everying 36 = .ok (.invokevirtual 658, 3) := by decide +kernel
theorem dX11_everying_39 : decode cX11_everying 39 = .ok (.istore 4, 2) := by decide +kernel
theorem dX11_everying_41 : decode cX11_everying 41 = .ok (.aload_n 0, 1) := by decide +kernel
theorem dX11_everying_42 : decode cX11_everying 42 = .ok (.bipush 6, 2) := by decide +kernel
theorem dX11_everying_44 : decode cX11_everying 44 = .ok (.iconst (-1), 1) := by decide +kernel
theorem dX11_everying_45 : decode cX11_everying 45 = .ok (.iload_n 3, 1) := by decide +kernel
theorem dX11_everying_46 : decode cX11_everying 46 = .ok (.iload 4, 2) := by decide +kernel
theorem dX11_everying_48 : decode cX11_everying 48 = .ok (.invokevirtual 658, 3) := by decide +kernel
theorem dX11_everying_51 : decode cX11_everying 51 = .ok (.ireturn, 1) := by decide +kernel
theorem dX11_nodeOf_0 : decode cX11_nodeOf 0 = .ok (.aload_n 0, 1) := by decide +kernel
theorem dX11_nodeOf_1 : decode cX11_nodeOf 1 = .ok (.getfield 129, 3) := by decide +kernel
theorem dX11_nodeOf_4 : decode cX11_nodeOf 4 = .ok (.iload_n 1, 1) := by decide +kernel
theorem dX11_nodeOf_5 : decode cX11_nodeOf 5 = .ok (.iaload, 1) := by decide +kernel
theorem dX11_nodeOf_6 : decode cX11_nodeOf 6 = .ok (.iconst (-1), 1) := by decide +kernel
theorem dX11_nodeOf_7 : decode cX11_nodeOf 7 = .ok (.if_icmp .ne 7, 3) := by decide +kernel
theorem dX11_nodeOf_10 : decode cX11_nodeOf 10 = .ok (.iconst (-1), 1) := by decide +kernel
theorem dX11_nodeOf_11 : decode cX11_nodeOf 11 = .ok (.goto 13, 3) := by decide +kernel
theorem dX11_nodeOf_14 : decode cX11_nodeOf 14 = .ok (.aload_n 0, 1) := by decide +kernel
theorem dX11_nodeOf_15 : decode cX11_nodeOf 15 = .ok (.aload_n 0, 1) := by decide +kernel
theorem dX11_nodeOf_16 : decode cX11_nodeOf 16 = .ok (.getfield 129, 3) := by decide +kernel
theorem dX11_nodeOf_19 : decode cX11_nodeOf 19 = .ok (.iload_n 1, 1) := by decide +kernel
theorem dX11_nodeOf_20 : decode cX11_nodeOf 20 = .ok (.iaload, 1) := by decide +kernel
theorem dX11_nodeOf_21 : decode cX11_nodeOf 21 = .ok (.invokevirtual 676, 3) := by decide +kernel
theorem dX11_nodeOf_24 : decode cX11_nodeOf 24 = .ok (.istore_n 2, 1) := by decide +kernel
theorem dX11_nodeOf_25 : decode cX11_nodeOf 25 = .ok (.aload_n 0, 1) := by decide +kernel
theorem dX11_nodeOf_26 : decode cX11_nodeOf 26 = .ok (.getfield 96, 3) := by decide +kernel
theorem dX11_nodeOf_29 : decode cX11_nodeOf 29 = .ok (.iload_n 1, 1) := by decide +kernel
theorem dX11_nodeOf_30 : decode cX11_nodeOf 30 = .ok (.iaload, 1) := by decide +kernel
theorem dX11_nodeOf_31 : decode cX11_nodeOf 31 = .ok (.tableswitch 343 1 16 #[77, 84, 89, 96, 124, 134, 193, 205, 241, 255, 265, 272, 282, 134, 343, 289], 77) := by decide +kernel
theorem dX11_nodeOf_108 : decode cX11_nodeOf 108 = .ok (.aload_n 0, 1) := by decide +kernel
theorem dX11_nodeOf_109 : decode cX11_nodeOf 109 = .ok (.iconst 2, 1) := by decide +kernel
theorem dX11_nodeOf_110 : decode cX11_nodeOf 110 = .ok (.iconst (-1), 1) := by decide +kernel
theorem dX11_nodeOf_111 : decode cX11_nodeOf 111 = .ok (.invokevirtual 651, 3) := by decide +kernel
theorem dX11_nodeOf_114 : decode cX11_nodeOf 114 = .ok (.ireturn, 1) := by decide +kernel
theorem dX11_nodeOf_115 : decode cX11_nodeOf 115 = .ok (.aload_n 0, 1) := by decide +kernel
theorem dX11_nodeOf_116 : decode cX11_nodeOf 116 = .ok (.invokevirtual 669, 3) := by decide +kernel
theorem dX11_nodeOf_119 : decode cX11_nodeOf 119 = .ok (.ireturn, 1) := by decide +kernel
theorem dX11_nodeOf_120 : decode cX11_nodeOf 120 = .ok (.aload_n 0, 1) := by decide +kernel
theorem dX11_nodeOf_121 : decode cX11_nodeOf 121 = .ok (.iconst 1, 1) := by decide +kernel
theorem dX11_nodeOf_122 : decode cX11_nodeOf 122 = .ok (.iload_n 1, 1) := by decide +kernel
theorem dX11_nodeOf_123 : decode cX11_nodeOf 123 = .ok (.invokevirtual 651, 3) := by decide +kernel
theorem dX11_nodeOf_126 : decode cX11_nodeOf 126 = .ok (.ireturn, 1) := by decide +kernel
theorem dX11_nodeOf_127 : decode cX11_nodeOf 127 = .ok (.aload_n 0, 1) := by decide +kernel
theorem dX11_nodeOf_128 : decode cX11_nodeOf 128 = .ok (.bipush 7, 2) := by decide +kernel
theorem dX11_nodeOf_130 : decode cX11_nodeOf 130 = .ok (.iconst (-1), 1) := by decide +kernel
theorem dX11_nodeOf_131 : decode cX11_nodeOf 131 = .ok (.aload_n 0, 1) := by decide +kernel
theorem dX11_nodeOf_132 : decode cX11_nodeOf 132 = .ok (.bipush 6, 2) := by decide +kernel
theorem dX11_nodeOf_134 : decode cX11_nodeOf 134 = .ok (.iconst (-1), 1) := by decide +kernel
theorem dX11_nodeOf_135 : decode cX11_nodeOf 135 = .ok (.aload_n 0, 1) := by decide +kernel
theorem dX11_nodeOf_136 : decode cX11_nodeOf 136 = .ok (.iconst 1, 1) := by decide +kernel
theorem dX11_nodeOf_137 : decode cX11_nodeOf 137 = .ok (.iload_n 1, 1) := by decide +kernel
theorem dX11_nodeOf_138 : decode cX11_nodeOf 138 = .ok (.invokevirtual 651, 3) := by decide +kernel
theorem dX11_nodeOf_141 : decode cX11_nodeOf 141 = .ok (.aload_n 0, 1) := by decide +kernel
theorem dX11_nodeOf_142 : decode cX11_nodeOf 142 = .ok (.iconst 2, 1) := by decide +kernel
theorem dX11_nodeOf_143 : decode cX11_nodeOf 143 = .ok (.iconst (-1), 1) := by decide +kernel
theorem dX11_nodeOf_144 : decode cX11_nodeOf 144 = .ok (.invokevirtual 651, 3) := by decide +kernel
theorem dX11_nodeOf_147 : decode cX11_nodeOf 147 = .ok (.invokevirtual 658, 3) := by decide +kernel
theorem dX11_nodeOf_150 : decode cX11_nodeOf 150 = .ok (.iconst (-1), 1) := by decide +kernel
theorem dX11_nodeOf_151 : decode cX11_nodeOf 151 = .ok (.invokevirtual 658, 3) := by decide +kernel
theorem dX11_nodeOf_154 : decode cX11_nodeOf 154 = .ok (.ireturn, 1) := by decide +kernel
theorem dX11_nodeOf_155 : decode cX11_nodeOf 155 = .ok (.aload_n 0, 1) := by decide +kernel
theorem dX11_nodeOf_156 : decode cX11_nodeOf 156 = .ok (.bipush 7, 2) := by decide +kernel
theorem dX11_nodeOf_158 : decode cX11_nodeOf 158 = .ok (.iconst (-1), 1) := by decide +kernel
theorem dX11_nodeOf_159 : decode cX11_nodeOf 159 = .ok (.iload_n 2, 1) := by decide +kernel
theorem dX11_nodeOf_160 : decode cX11_nodeOf 160 = .ok (.iconst (-1), 1) := by decide +kernel
theorem dX11_nodeOf_161 : decode cX11_nodeOf 161 = .ok (.invokevirtual 658, 3) := by decide +kernel
theorem dX11_nodeOf_164 : decode cX11_nodeOf 164 = .ok (.ireturn, 1) := by decide +kernel
theorem dX11_nodeOf_165 : decode cX11_nodeOf 165 = .ok (.aload_n 0, 1) := by decide +kernel
theorem dX11_nodeOf_166 : decode cX11_nodeOf 166 = .ok (.getfield 147, 3) := by decide +kernel
theorem dX11_nodeOf_169 : decode cX11_nodeOf 169 = .ok (.aload_n 0, 1) := by decide +kernel
theorem dX11_nodeOf_170 : decode cX11_nodeOf 170 = .ok (.getfield 129, 3) := by decide +kernel
theorem dX11_nodeOf_173 : decode cX11_nodeOf 173 = .ok (.iload_n 1, 1) := by decide +kernel
theorem dX11_nodeOf_174 : decode cX11_nodeOf 174 = .ok (.iaload, 1) := by decide +kernel
theorem dX11_nodeOf_175 : decode cX11_nodeOf 175 = .ok (.iaload, 1) := by decide +kernel
theorem dX11_nodeOf_176 : decode cX11_nodeOf 176 = .ok (.iconst (-1), 1) := by decide +kernel
theorem dX11_nodeOf_177 : decode cX11_nodeOf 177 = .ok (.if_icmp .ne 7, 3) := by decide +kernel
theorem dX11_nodeOf_180 : decode cX11_nodeOf 180 = .ok (.iconst (-1), 1) := by decide +kernel
theorem dX11_nodeOf_181 : decode cX11_nodeOf 181 = .ok (.goto 18, 3) := by decide +kernel
theorem dX11_nodeOf_184 : decode cX11_nodeOf 184 = .ok (.aload_n 0, 1) := by decide +kernel
theorem dX11_nodeOf_185 : decode cX11_nodeOf 185 = .ok (.aload_n 0, 1) := by decide +kernel
theorem dX11_nodeOf_186 : decode cX11_nodeOf 186 = .ok (.getfield 147, 3) := by decide +kernel
theorem dX11_nodeOf_189 : decode cX11_nodeOf 189 = .ok (.aload_n 0, 1) := by decide +kernel
theorem dX11_nodeOf_190 : decode cX11_nodeOf 190 = .ok (.getfield 129, 3) := by decide +kernel
theorem dX11_nodeOf_193 : decode cX11_nodeOf 193 = .ok (.iload_n 1, 1) := by decide +kernel
theorem dX11_nodeOf_194 : decode cX11_nodeOf 194 = .ok (.iaload, 1) := by decide +kernel
theorem dX11_nodeOf_195 : decode cX11_nodeOf 195 = .ok (.iaload, 1) := by decide +kernel
theorem dX11_nodeOf_196 : decode cX11_nodeOf 196 = .ok (.invokevirtual 676, 3) := by decide +kernel
theorem dX11_nodeOf_199 : decode cX11_nodeOf 199 = .ok (.istore_n 3, 1) := by decide +kernel
theorem dX11_nodeOf_200 : decode cX11_nodeOf 200 = .ok (.aload_n 0, 1) := by decide +kernel
theorem dX11_nodeOf_201 : decode cX11_nodeOf 201 = .ok (.aload_n 0, 1) := by decide +kernel
theorem dX11_nodeOf_202 : decode cX11_nodeOf 202 = .ok (.getfield 96, 3) := by decide +kernel
theorem dX11_nodeOf_205 : decode cX11_nodeOf 205 = .ok (.iload_n 1, 1) := by decide +kernel
theorem dX11_nodeOf_206 : decode cX11_nodeOf 206 = .ok (.iaload, 1) := by decide +kernel
theorem dX11_nodeOf_207 : decode cX11_nodeOf 207 = .ok (.bipush 14, 2) := by decide +kernel
theorem dX11_nodeOf_209 : decode cX11_nodeOf 209 = .ok (.if_icmp .ne 7, 3) := by decide +kernel
theorem dX11_nodeOf_212 : decode cX11_nodeOf 212 = .ok (.iconst 5, 1) := by decide +kernel
theorem dX11_nodeOf_213 : decode cX11_nodeOf 213 = .ok (.goto 4, 3) := by decide +kernel
theorem dX11_nodeOf_216 : decode cX11_nodeOf 216 = .ok (.iconst 4, 1) := by decide +kernel
theorem dX11_nodeOf_217 : decode cX11_nodeOf 217 = .ok (.iload_n 1, 1) := by decide +kernel
theorem dX11_nodeOf_218 : decode cX11_nodeOf 218 = .ok (.iload_n 2, 1) := by decide +kernel
theorem dX11_nodeOf_219 : decode cX11_nodeOf 219 = .ok (.iload_n 3, 1) := by decide +kernel
theorem dX11_nodeOf_220 : decode cX11_nodeOf 220 = .ok (.invokevirtual 658, 3) := by decide +kernel
theorem dX11_nodeOf_223 : decode cX11_nodeOf 223 = .ok (.ireturn, 1) := by decide +kernel
theorem dX11_nodeOf_224 : decode cX11_nodeOf 224 = .ok (.aload_n 0, 1) := by decide +kernel
theorem dX11_nodeOf_225 : decode cX11_nodeOf 225 = .ok (.iload_n 1, 1) := by decide +kernel
theorem dX11_nodeOf_226 : decode cX11_nodeOf 226 = .ok (.aload_n 0, 1) := by decide +kernel
theorem dX11_nodeOf_227 : decode cX11_nodeOf 227 = .ok (.getfield 105, 3) := by decide +kernel
theorem dX11_nodeOf_230 : decode cX11_nodeOf 230 = .ok (.iload_n 1, 1) := by decide +kernel
theorem dX11_nodeOf_231 : decode cX11_nodeOf 231 = .ok (.baload, 1) := by decide +kernel
theorem dX11_nodeOf_232 : decode cX11_nodeOf 232 = .ok (.invokevirtual 666, 3) := by decide +kernel
theorem dX11_nodeOf_235 : decode cX11_nodeOf 235 = .ok (.ireturn, 1) := by decide +kernel
theorem dX11_nodeOf_236 : decode cX11_nodeOf 236 = .ok (.aload_n 0, 1) := by decide +kernel
theorem dX11_nodeOf_237 : decode cX11_nodeOf 237 = .ok (.iload_n 1, 1) := by decide +kernel
theorem dX11_nodeOf_238 : decode cX11_nodeOf 238 = .ok (.iload_n 2, 1) := by decide +kernel
theorem dX11_nodeOf_239 : decode cX11_nodeOf 239 = .ok (.iconst 0, 1) := by decide +kernel
theorem dX11_nodeOf_240 : decode cX11_nodeOf 240 = .ok (.iconst 0, 1) := by decide +kernel
theorem dX11_nodeOf_241 : decode cX11_nodeOf 241 = .ok (.invokevirtual 672, 3) := by decide +kernel
theorem dX11_nodeOf_244 : decode cX11_nodeOf 244 = .ok (.istore_n 3, 1) := by decide +kernel
theorem dX11_nodeOf_245 : decode cX11_nodeOf 245 = .ok (.aload_n 0, 1) := by decide +kernel
theorem dX11_nodeOf_246 : decode cX11_nodeOf 246 = .ok (.getfield 105, 3) := by decide +kernel
theorem dX11_nodeOf_249 : decode cX11_nodeOf 249 = .ok (.iload_n 1, 1) := by decide +kernel
theorem dX11_nodeOf_250 : decode cX11_nodeOf 250 = .ok (.baload, 1) := by decide +kernel
theorem dX11_nodeOf_251 : decode cX11_nodeOf 251 = .ok (.ifCond .eq 19, 3) := by decide +kernel
theorem dX11_nodeOf_254 : decode cX11_nodeOf 254 = .ok (.aload_n 0, 1) := by decide +kernel
theorem dX11_nodeOf_255 : decode cX11_nodeOf 255 = .ok (.iconst 4, 1) := by decide +kernel
theorem dX11_nodeOf_256 : decode cX11_nodeOf 256 = .ok (.iload_n 1, 1) := by decide +kernel
theorem dX11_nodeOf_257 : decode cX11_nodeOf 257 = .ok (.aload_n 0, 1) := by decide +kernel
theorem dX11_nodeOf_258 : decode cX11_nodeOf 258 = .ok (.iconst 0, 1) := by decide +kernel
theorem dX11_nodeOf_259 : decode cX11_nodeOf 259 = .ok (.iconst (-1), 1) := by decide +kernel
theorem dX11_nodeOf_260 : decode cX11_nodeOf 260 = .ok (.invokevirtual 651, 3) := by decide +kernel
theorem dX11_nodeOf_263 : decode cX11_nodeOf 263 = .ok (.iload_n 3, 1) := by decide +kernel
theorem dX11_nodeOf_264 : decode cX11_nodeOf 264 = .ok (.invokevirtual 658, 3) := by decide +kernel
theorem dX11_nodeOf_267 : decode cX11_nodeOf 267 = .ok (.goto 4, 3) := by decide +kernel
theorem dX11_nodeOf_270 : decode cX11_nodeOf 270 = .ok (.iload_n 3, 1) := by decide +kernel
theorem dX11_nodeOf_271 : decode cX11_nodeOf 271 = .ok (.ireturn, 1) := by decide +kernel
theorem dX11_nodeOf_272 : decode cX11_nodeOf 272 = .ok (.aload_n 0, 1) := by decide +kernel
theorem dX11_nodeOf_273 : decode cX11_nodeOf 273 = .ok (.iload_n 1, 1) := by decide +kernel
theorem dX11_nodeOf_274 : decode cX11_nodeOf 274 = .ok (.iload_n 2, 1) := by decide +kernel
theorem dX11_nodeOf_275 : decode cX11_nodeOf 275 = .ok (.iconst 1, 1) := by decide +kernel
theorem dX11_nodeOf_276 : decode cX11_nodeOf 276 = .ok (.aload_n 0, 1) := by decide +kernel
theorem dX11_nodeOf_277 : decode cX11_nodeOf 277 = .ok (.getfield 105, 3) := by decide +kernel
theorem dX11_nodeOf_280 : decode cX11_nodeOf 280 = .ok (.iload_n 1, 1) := by decide +kernel
theorem dX11_nodeOf_281 : decode cX11_nodeOf 281 = .ok (.baload, 1) := by decide +kernel
theorem dX11_nodeOf_282 : decode cX11_nodeOf 282 = .ok (.invokevirtual 672, 3) := by decide +kernel
theorem dX11_nodeOf_285 : decode cX11_nodeOf 285 = .ok (.ireturn, 1) := by decide +kernel
theorem dX11_nodeOf_286 : decode cX11_nodeOf 286 = .ok (.aload_n 0, 1) := by decide +kernel
theorem dX11_nodeOf_287 : decode cX11_nodeOf 287 = .ok (.bipush 8, 2) := by decide +kernel
theorem dX11_nodeOf_289 : decode cX11_nodeOf 289 = .ok (.iload_n 1, 1) := by decide +kernel
theorem dX11_nodeOf_290 : decode cX11_nodeOf 290 = .ok (.iload_n 2, 1) := by decide +kernel
theorem dX11_nodeOf_291 : decode cX11_nodeOf 291 = .ok (.iconst (-1), 1) := by decide +kernel
theorem dX11_nodeOf_292 : decode cX11_nodeOf 292 = .ok (.invokevirtual 658, 3) := by decide +kernel
theorem dX11_nodeOf_295 : decode cX11_nodeOf 295 = .ok (.ireturn, 1) := by decide +kernel
theorem dX11_nodeOf_296 : decode cX11_nodeOf 296 = .ok (.aload_n 0, 1) := by decide +kernel
theorem dX11_nodeOf_297 : decode cX11_nodeOf 297 = .ok (.iload_n 1, 1) := by decide +kernel
theorem dX11_nodeOf_298 : decode cX11_nodeOf 298 = .ok (.iload_n 2, 1) := by decide +kernel
theorem dX11_nodeOf_299 : decode cX11_nodeOf 299 = .ok (.invokevirtual 679, 3) := by decide +kernel
theorem dX11_nodeOf_302 : decode cX11_nodeOf 302 = .ok (.ireturn, 1) := by decide +kernel
theorem dX11_nodeOf_303 : decode cX11_nodeOf 303 = .ok (.aload_n 0, 1) := by decide +kernel
theorem dX11_nodeOf_304 : decode cX11_nodeOf 304 = .ok (.bipush 10, 2) := by decide +kernel
theorem dX11_nodeOf_306 : decode cX11_nodeOf 306 = .ok (.iload_n 1, 1) := by decide +kernel
theorem dX11_nodeOf_307 : decode cX11_nodeOf 307 = .ok (.iload_n 2, 1) := by decide +kernel
theorem dX11_nodeOf_308 : decode cX11_nodeOf 308 = .ok (.iconst (-1), 1) := by decide +kernel
theorem dX11_nodeOf_309 : decode cX11_nodeOf 309 = .ok (.invokevirtual 658, 3) := by decide +kernel
theorem dX11_nodeOf_312 : decode cX11_nodeOf 312 = .ok (.ireturn, 1) := by decide +kernel
theorem dX11_nodeOf_313 : decode cX11_nodeOf 313 = .ok (.aload_n 0, 1) := by decide +kernel
theorem dX11_nodeOf_314 : decode cX11_nodeOf 314 = .ok (.iconst 3, 1) := by decide +kernel
theorem dX11_nodeOf_315 : decode cX11_nodeOf 315 = .ok (.iload_n 1, 1) := by decide +kernel
theorem dX11_nodeOf_316 : decode cX11_nodeOf 316 = .ok (.invokevirtual 651, 3) := by decide +kernel
theorem dX11_nodeOf_319 : decode cX11_nodeOf 319 = .ok (.ireturn, 1) := by decide +kernel
theorem dX11_nodeOf_320 : decode cX11_nodeOf 320 = .ok (.aload_n 0, 1) := by decide +kernel
theorem dX11_nodeOf_321 : decode cX11_nodeOf 321 = .ok (.bipush 9, 2) := by decide +kernel
theorem dX11_nodeOf_323 : decode cX11_nodeOf 323 = .ok (.iconst (-1), 1) := by decide +kernel
theorem dX11_nodeOf_324 : decode cX11_nodeOf 324 = .ok (.iload_n 2, 1) := by decide +kernel
theorem dX11_nodeOf_325 : decode cX11_nodeOf 325 = .ok (.iconst (-1), 1) := by decide +kernel
theorem dX11_nodeOf_326 : decode cX11_nodeOf 326 = .ok (.invokevirtual 658, 3) := by decide +kernel
theorem dX11_nodeOf_329 : decode cX11_nodeOf 329 = .ok (.istore_n 3, 1) := by decide +kernel
theorem dX11_nodeOf_330 : decode cX11_nodeOf 330 = .ok (.aload_n 0, 1) := by decide +kernel
theorem dX11_nodeOf_331 : decode cX11_nodeOf 331 = .ok (.getfield 147, 3) := by decide +kernel
theorem dX11_nodeOf_334 : decode cX11_nodeOf 334 = .ok (.aload_n 0, 1) := by decide +kernel
theorem dX11_nodeOf_335 : decode cX11_nodeOf 335 = .ok (.getfield 129, 3) := by decide +kernel
theorem dX11_nodeOf_338 : decode cX11_nodeOf 338 = .ok (.iload_n 1, 1) := by decide +kernel
theorem dX11_nodeOf_339 : decode cX11_nodeOf 339 = .ok (.iaload, 1) := by decide +kernel
theorem dX11_nodeOf_340 : decode cX11_nodeOf 340 = .ok (.iaload, 1) := by decide +kernel
theorem dX11_nodeOf_341 : decode cX11_nodeOf 341 = .ok (.istore 4, 2) := by decide +kernel
theorem dX11_nodeOf_343 : decode cX11_nodeOf 343 = .ok (.iload 4, 2) := by decide +kernel
theorem dX11_nodeOf_345 : decode cX11_nodeOf 345 = .ok (.iconst (-1), 1) := by decide +kernel
theorem dX11_nodeOf_346 : decode cX11_nodeOf 346 = .ok (.if_icmp .eq 26, 3) := by decide +kernel
theorem dX11_nodeOf_349 : decode cX11_nodeOf 349 = .ok (.aload_n 0, 1) := by decide +kernel
theorem dX11_nodeOf_350 : decode cX11_nodeOf 350 = .ok (.iload_n 3, 1) := by decide +kernel
theorem dX11_nodeOf_351 : decode cX11_nodeOf 351 = .ok (.aload_n 0, 1) := by decide +kernel
theorem dX11_nodeOf_352 : decode cX11_nodeOf 352 = .ok (.iload 4, 2) := by decide +kernel
theorem dX11_nodeOf_354 : decode cX11_nodeOf 354 = .ok (.invokevirtual 676, 3) := by decide +kernel
theorem dX11_nodeOf_357 : decode cX11_nodeOf 357 = .ok (.invokevirtual 655, 3) := by decide +kernel
theorem dX11_nodeOf_360 : decode cX11_nodeOf 360 = .ok (.aload_n 0, 1) := by decide +kernel
theorem dX11_nodeOf_361 : decode cX11_nodeOf 361 = .ok (.getfield 147, 3) := by decide +kernel
theorem dX11_nodeOf_364 : decode cX11_nodeOf 364 = .ok (.iload 4, 2) := by decide +kernel
theorem dX11_nodeOf_366 : decode cX11_nodeOf 366 = .ok (.iaload, 1) := by decide +kernel
theorem dX11_nodeOf_367 : decode cX11_nodeOf 367 = .ok (.istore 4, 2) := by decide +kernel
theorem dX11_nodeOf_369 : decode cX11_nodeOf 369 = .ok (.goto (-26), 3) := by decide +kernel
theorem dX11_nodeOf_372 : decode cX11_nodeOf 372 = .ok (.iload_n 3, 1) := by decide +kernel
theorem dX11_nodeOf_373 : decode cX11_nodeOf 373 = .ok (.ireturn, 1) := by decide +kernel
theorem dX11_nodeOf_374 : decode cX11_nodeOf 374 = .ok (.aload_n 0, 1) := by decide +kernel
theorem dX11_nodeOf_375 : decode cX11_nodeOf 375 = .ok (.iconst 0, 1) := by decide +kernel
theorem dX11_nodeOf_376 : decode cX11_nodeOf 376 = .ok (.iconst (-1), 1) := by decide +kernel
theorem dX11_nodeOf_377 : decode cX11_nodeOf 377 = .ok (.invokevirtual 651, 3) := by decide +kernel
theorem dX11_nodeOf_380 : decode cX11_nodeOf 380 = .ok (.ireturn, 1) := by decide +kernel
theorem dX11_build_0 : decode cX11_build 0 = .ok (.bipush 40, 2) := by decide +kernel
theorem dX11_build_2 : decode cX11_build 2 = .ok (.aload_n 0, 1) := by decide +kernel
theorem dX11_build_3 : decode cX11_build 3 = .ok (.getfield 450, 3) := by decide +kernel
theorem dX11_build_6 : decode cX11_build 6 = .ok (.imul, 1) := by decide +kernel
theorem dX11_build_7 : decode cX11_build 7 = .ok (.aload_n 0, 1) := by decide +kernel
theorem dX11_build_8 : decode cX11_build 8 = .ok (.getfield 84, 3) := by decide +kernel
theorem dX11_build_11 : decode cX11_build 11 = .ok (.aload_n 0, 1) := by decide +kernel
theorem dX11_build_12 : decode cX11_build 12 = .ok (.getfield 450, 3) := by decide +kernel
theorem dX11_build_15 : decode cX11_build 15 = .ok (.iaload, 1) := by decide +kernel
theorem dX11_build_16 : decode cX11_build 16 = .ok (.iadd, 1) := by decide +kernel
theorem dX11_build_17 : decode cX11_build 17 = .ok (.iconst 1, 1) := by decide +kernel
theorem dX11_build_18 : decode cX11_build 18 = .ok (.isub, 1) := by decide +kernel
theorem dX11_build_19 : decode cX11_build 19 = .ok (.istore_n 2, 1) := by decide +kernel
theorem dX11_build_20 : decode cX11_build 20 = .ok (.iload_n 2, 1) := by decide +kernel
theorem dX11_build_21 : decode cX11_build 21 = .ok (.bipush 40, 2) := by decide +kernel
theorem dX11_build_23 : decode cX11_build 23 = .ok (.aload_n 0, 1) := by decide +kernel
theorem dX11_build_24 : decode cX11_build 24 = .ok (.getfield 450, 3) := by decide +kernel
theorem dX11_build_27 : decode cX11_build 27 = .ok (.imul, 1) := by decide +kernel
theorem dX11_build_28 : decode cX11_build 28 = .ok (.if_icmp .lt 20, 3) := by decide +kernel
theorem dX11_build_31 : decode cX11_build 31 = .ok (.aload_n 0, 1) := by decide +kernel
theorem dX11_build_32 : decode cX11_build 32 = .ok (.getfield 192, 3) := by decide +kernel
theorem dX11_build_35 : decode cX11_build 35 = .ok (.iload_n 2, 1) := by decide +kernel
theorem dX11_build_36 : decode cX11_build 36 = .ok (.aload_n 0, 1) := by decide +kernel
theorem dX11_build_37 : decode cX11_build 37 = .ok (.iload_n 2, 1) := by decide +kernel
theorem dX11_build_38 : decode cX11_build 38 = .ok (.invokevirtual 682, 3) := by decide +kernel
theorem dX11_build_41 : decode cX11_build 41 = .ok (.iastore, 1) := by decide +kernel
theorem dX11_build_42 : decode cX11_build 42 = .ok (.iinc 2 (-1), 3) := by decide +kernel
theorem dX11_build_45 : decode cX11_build 45 = .ok (.goto (-25), 3) := by decide +kernel
theorem dX11_build_48 : decode cX11_build 48 = .ok (.aload_n 0, 1) := by decide +kernel
theorem dX11_build_49 : decode cX11_build 49 = .ok (.getfield 195, 3) := by decide +kernel
theorem dX11_build_52 : decode cX11_build 52 = .ok (.aload_n 0, 1) := by decide +kernel
theorem dX11_build_53 : decode cX11_build 53 = .ok (.getfield 450, 3) := by decide +kernel
theorem dX11_build_56 : decode cX11_build 56 = .ok (.aload_n 0, 1) := by decide +kernel
theorem dX11_build_57 : decode cX11_build 57 = .ok (.iload_n 1, 1) := by decide +kernel
theorem dX11_build_58 : decode cX11_build 58 = .ok (.invokevirtual 676, 3) := by decide +kernel
theorem dX11_build_61 : decode cX11_build 61 = .ok (.iastore, 1) := by decide +kernel
theorem dX11_build_62 : decode cX11_build 62 = .ok (.aload_n 0, 1) := by decide +kernel
theorem dX11_build_63 : decode cX11_build 63 = .ok (.invokevirtual 685, 3) := by decide +kernel
theorem dX11_build_66 : decode cX11_build 66 = .ok (.return_, 1) := by decide +kernel
theorem dX11_step_0 : decode cX11_step 0 = .ok (.aload_n 0, 1) := by decide +kernel
theorem dX11_step_1 : decode cX11_step 1 = .ok (.getfield 201, 3) := by decide +kernel
theorem dX11_step_4 : decode cX11_step 4 = .ok (.sipush 1400, 3) := by decide +kernel
theorem dX11_step_7 : decode cX11_step 7 = .ok (.aload_n 0, 1) := by decide +kernel
theorem dX11_step_8 : decode cX11_step 8 = .ok (.getfield 450, 3) := by decide +kernel
theorem dX11_step_11 : decode cX11_step 11 = .ok (.imul, 1) := by decide +kernel
theorem dX11_step_12 : decode cX11_step 12 = .ok (.aload_n 0, 1) := by decide +kernel
theorem dX11_step_13 : decode cX11_step 13 = .ok (.getfield 204, 3) := by decide +kernel
theorem dX11_step_16 : decode cX11_step 16 = .ok (.aload_n 0, 1) := by decide +kernel
theorem dX11_step_17 : decode cX11_step 17 = .ok (.getfield 450, 3) := by decide +kernel
theorem dX11_step_20 : decode cX11_step 20 = .ok (.iaload, 1) := by decide +kernel
theorem dX11_step_21 : decode cX11_step 21 = .ok (.iadd, 1) := by decide +kernel
theorem dX11_step_22 : decode cX11_step 22 = .ok (.iconst 2, 1) := by decide +kernel
theorem dX11_step_23 : decode cX11_step 23 = .ok (.iload_n 1, 1) := by decide +kernel
theorem dX11_step_24 : decode cX11_step 24 = .ok (.imul, 1) := by decide +kernel
theorem dX11_step_25 : decode cX11_step 25 = .ok (.iload_n 2, 1) := by decide +kernel
theorem dX11_step_26 : decode cX11_step 26 = .ok (.ifCond .eq 7, 3) := by decide +kernel
theorem dX11_step_29 : decode cX11_step 29 = .ok (.iconst 1, 1) := by decide +kernel
theorem dX11_step_30 : decode cX11_step 30 = .ok (.goto 4, 3) := by decide +kernel
theorem dX11_step_33 : decode cX11_step 33 = .ok (.iconst 0, 1) := by decide +kernel
theorem dX11_step_34 : decode cX11_step 34 = .ok (.iadd, 1) := by decide +kernel
theorem dX11_step_35 : decode cX11_step 35 = .ok (.iastore, 1) := by decide +kernel
theorem dX11_step_36 : decode cX11_step 36 = .ok (.aload_n 0, 1) := by decide +kernel
theorem dX11_step_37 : decode cX11_step 37 = .ok (.getfield 204, 3) := by decide +kernel
theorem dX11_step_40 : decode cX11_step 40 = .ok (.aload_n 0, 1) := by decide +kernel
theorem dX11_step_41 : decode cX11_step 41 = .ok (.getfield 450, 3) := by decide +kernel
theorem dX11_step_44 : decode cX11_step 44 = .ok (.dup2, 1) := by decide +kernel
theorem dX11_step_45 : decode cX11_step 45 = .ok (.iaload, 1) := by decide +kernel
theorem dX11_step_46 : decode cX11_step 46 = .ok (.iconst 1, 1) := by decide +kernel
theorem dX11_step_47 : decode cX11_step 47 = .ok (.iadd, 1) := by decide +kernel
theorem dX11_step_48 : decode cX11_step 48 = .ok (.iastore, 1) := by decide +kernel
theorem dX11_step_49 : decode cX11_step 49 = .ok (.return_, 1) := by decide +kernel
theorem dX11_goThrough_0 : decode cX11_goThrough 0 = .ok (.aload_n 0, 1) := by decide +kernel
theorem dX11_goThrough_1 : decode cX11_goThrough 1 = .ok (.getfield 204, 3) := by decide +kernel
theorem dX11_goThrough_4 : decode cX11_goThrough 4 = .ok (.aload_n 0, 1) := by decide +kernel
theorem dX11_goThrough_5 : decode cX11_goThrough 5 = .ok (.getfield 450, 3) := by decide +kernel
theorem dX11_goThrough_8 : decode cX11_goThrough 8 = .ok (.iconst 0, 1) := by decide +kernel
theorem dX11_goThrough_9 : decode cX11_goThrough 9 = .ok (.iastore, 1) := by decide +kernel
theorem dX11_goThrough_10 : decode cX11_goThrough 10 = .ok (.aload_n 0, 1) := by decide +kernel
theorem dX11_goThrough_11 : decode cX11_goThrough 11 = .ok (.getfield 198, 3) := by decide +kernel
theorem dX11_goThrough_14 : decode cX11_goThrough 14 = .ok (.aload_n 0, 1) := by decide +kernel
theorem dX11_goThrough_15 : decode cX11_goThrough 15 = .ok (.getfield 450, 3) := by decide +kernel
theorem dX11_goThrough_18 : decode cX11_goThrough 18 = .ok (.iconst 3, 1) := by decide +kernel
theorem dX11_goThrough_19 : decode cX11_goThrough 19 = .ok (.iastore, 1) := by decide +kernel
theorem dX11_goThrough_20 : decode cX11_goThrough 20 = .ok (.iconst 0, 1) := by decide +kernel
theorem dX11_goThrough_21 : decode cX11_goThrough 21 = .ok (.istore_n 1, 1) := by decide +kernel
theorem dX11_goThrough_22 : decode cX11_goThrough 22 = .ok (.aload_n 0, 1) := by decide +kernel
theorem dX11_goThrough_23 : decode cX11_goThrough 23 = .ok (.getfield 195, 3) := by decide +kernel
theorem dX11_goThrough_26 : decode cX11_goThrough 26 = .ok (.aload_n 0, 1) := by decide +kernel
theorem dX11_goThrough_27 : decode cX11_goThrough 27 = .ok (.getfield 450, 3) := by decide +kernel
theorem dX11_goThrough_30 : decode cX11_goThrough 30 = .ok (.iaload, 1) := by decide +kernel
theorem dX11_goThrough_31 : decode cX11_goThrough 31 = .ok (.istore_n 2, 1) := by decide +kernel
theorem dX11_goThrough_32 : decode cX11_goThrough 32 = .ok (.iconst 1, 1) := by decide +kernel
theorem dX11_goThrough_33 : decode cX11_goThrough 33 = .ok (.istore_n 3, 1) := by decide +kernel
theorem dX11_goThrough_34 : decode cX11_goThrough 34 = .ok (.iload_n 2, 1) := by decide +kernel
theorem dX11_goThrough_35 : decode cX11_goThrough 35 = .ok (.iconst (-1), 1) := by decide +kernel
theorem dX11_goThrough_36 : decode cX11_goThrough 36 = .ok (.if_icmp .eq 218, 3) := by decide +kernel
theorem dX11_goThrough_39 : decode cX11_goThrough 39 = .ok (.iload_n 3, 1) := by decide +kernel
theorem dX11_goThrough_40 : decode cX11_goThrough 40 = .ok (.ifCond .eq 108, 3) := by decide +kernel
theorem dX11_goThrough_43 : decode cX11_goThrough 43 = .ok (.aload_n 0, 1) := by decide +kernel
theorem dX11_goThrough_44 : decode cX11_goThrough 44 = .ok (.iload_n 2, 1) := by decide +kernel
theorem dX11_goThrough_45 : decode cX11_goThrough 45 = .ok (.iconst 0, 1) := by decide +kernel
theorem dX11_goThrough_46 : decode cX11_goThrough 46 = .ok (.invokevirtual 688, 3) := by decide +kernel
theorem dX11_goThrough_49 : decode cX11_goThrough 49 = .ok (.aload_n 0, 1) := by decide +kernel
theorem dX11_goThrough_50 : decode cX11_goThrough 50 = .ok (.getfield 162, 3) := by decide +kernel
theorem dX11_goThrough_53 : decode cX11_goThrough 53 = .ok (.iload_n 2, 1) := by decide +kernel
theorem dX11_goThrough_54 : decode cX11_goThrough 54 = .ok (.iaload, 1) := by decide +kernel
theorem dX11_goThrough_55 : decode cX11_goThrough 55 = .ok (.iconst 2, 1) := by decide +kernel
theorem dX11_goThrough_56 : decode cX11_goThrough 56 = .ok (.if_icmp .ne 22, 3) := by decide +kernel
theorem dX11_goThrough_59 : decode cX11_goThrough 59 = .ok (.aload_n 0, 1) := by decide +kernel
theorem dX11_goThrough_60 : decode cX11_goThrough 60 = .ok (.getfield 186, 3) := by decide +kernel
theorem dX11_goThrough_63 : decode cX11_goThrough 63 = .ok (.iload_n 2, 1) := by decide +kernel
theorem dX11_goThrough_64 : decode cX11_goThrough 64 = .ok (.iload_n 1, 1) := by decide +kernel
theorem dX11_goThrough_65 : decode cX11_goThrough 65 = .ok (.iastore, 1) := by decide +kernel
theorem dX11_goThrough_66 : decode cX11_goThrough 66 = .ok (.aload_n 0, 1) := by decide +kernel
theorem dX11_goThrough_67 : decode cX11_goThrough 67 = .ok (.getfield 183, 3) := by decide +kernel
theorem dX11_goThrough_70 : decode cX11_goThrough 70 = .ok (.iload_n 2, 1) := by decide +kernel
theorem dX11_goThrough_71 : decode cX11_goThrough 71 = .ok (.iconst 1, 1) := by decide +kernel
theorem dX11_goThrough_72 : decode cX11_goThrough 72 = .ok (.iload_n 1, 1) := by decide +kernel
theorem dX11_goThrough_73 : decode cX11_goThrough 73 = .ok (.ishl, 1) := by decide +kernel
theorem dX11_goThrough_74 : decode cX11_goThrough 74 = .ok (.iastore, 1) := by decide +kernel
theorem dX11_goThrough_75 : decode cX11_goThrough 75 = .ok (.iinc 1 1, 3) := by decide +kernel
theorem dX11_goThrough_78 : decode cX11_goThrough 78 = .ok (.aload_n 0, 1) := by decide +kernel
theorem dX11_goThrough_79 : decode cX11_goThrough 79 = .ok (.getfield 162, 3) := by decide +kernel
theorem dX11_goThrough_82 : decode cX11_goThrough 82 = .ok (.iload_n 2, 1) := by decide +kernel
theorem dX11_goThrough_83 : decode cX11_goThrough 83 = .ok (.iaload, 1) := by decide +kernel
theorem dX11_goThrough_84 : decode cX11_goThrough 84 = .ok (.iconst 3, 1) := by decide +kernel
theorem dX11_goThrough_85 : decode cX11_goThrough 85 = .ok (.if_icmp .ne 63, 3) := by decide +kernel
theorem dX11_goThrough_88 : decode cX11_goThrough 88 = .ok (.aload_n 0, 1) := by decide +kernel
theorem dX11_goThrough_89 : decode cX11_goThrough 89 = .ok (.getfield 186, 3) := by decide +kernel
theorem dX11_goThrough_92 : decode cX11_goThrough 92 = .ok (.iload_n 2, 1) := by decide +kernel
theorem dX11_goThrough_93 : decode cX11_goThrough 93 = .ok (.aload_n 0, 1) := by decide +kernel
theorem dX11_goThrough_94 : decode cX11_goThrough 94 = .ok (.iload_n 2, 1) := by decide +kernel
theorem dX11_goThrough_95 : decode cX11_goThrough 95 = .ok (.invokevirtual 691, 3) := by decide +kernel
theorem dX11_goThrough_98 : decode cX11_goThrough 98 = .ok (.iastore, 1) := by decide +kernel
theorem dX11_goThrough_99 : decode cX11_goThrough 99 = .ok (.aload_n 0, 1) := by decide +kernel
theorem dX11_goThrough_100 : decode cX11_goThrough 100 = .ok (.getfield 198, 3) := by decide +kernel
theorem dX11_goThrough_103 : decode cX11_goThrough 103 = .ok (.aload_n 0, 1) := by decide +kernel
theorem dX11_goThrough_104 : decode cX11_goThrough 104 = .ok (.getfield 450, 3) := by decide +kernel
theorem dX11_goThrough_107 : decode cX11_goThrough 107 = .ok (.aload_n 0, 1) := by decide +kernel
theorem dX11_goThrough_108 : decode cX11_goThrough 108 = .ok (.getfield 186, 3) := by decide +kernel
theorem dX11_goThrough_111 : decode cX11_goThrough 111 = .ok (.iload_n 2, 1) := by decide +kernel
theorem dX11_goThrough_112 : decode cX11_goThrough 112 = .ok (.iaload, 1) := by decide +kernel
theorem dX11_goThrough_113 : decode cX11_goThrough 113 = .ok (.iconst 1, 1) := by decide +kernel
theorem dX11_goThrough_114 : decode cX11_goThrough 114 = .ok (.iadd, 1) := by decide +kernel
theorem dX11_goThrough_115 : decode cX11_goThrough 115 = .ok (.aload_n 0, 1) := by decide +kernel
theorem dX11_goThrough_116 : decode cX11_goThrough 116 = .ok (.getfield 198, 3) := by decide +kernel
theorem dX11_goThrough_119 : decode cX11_goThrough 119 = .ok (.aload_n 0, 1) := by decide +kernel
theorem dX11_goThrough_120 : decode cX11_goThrough 120 = .ok (.getfield 450, 3) := by decide +kernel
theorem dX11_goThrough_123 : decode cX11_goThrough 123 = .ok (.iaload, 1) := by decide +kernel
theorem dX11_goThrough_124 : decode cX11_goThrough 124 = .ok (.if_icmp .le 14, 3) := by decide +kernel
theorem dX11_goThrough_127 : decode cX11_goThrough 127 = .ok (.aload_n 0, 1) := by decide +kernel
theorem dX11_goThrough_128 : decode cX11_goThrough 128 = .ok (.getfield 186, 3) := by decide +kernel
theorem dX11_goThrough_131 : decode cX11_goThrough 131 = .ok (.iload_n 2, 1) := by decide +kernel
theorem dX11_goThrough_132 : decode cX11_goThrough 132 = .ok (.iaload, 1) := by decide +kernel
theorem dX11_goThrough_133 : decode cX11_goThrough 133 = .ok (.iconst 1, 1) := by decide +kernel
theorem dX11_goThrough_134 : decode cX11_goThrough 134 = .ok (.iadd, 1) := by decide +kernel
theorem dX11_goThrough_135 : decode cX11_goThrough 135 = .ok (.goto 12, 3) := by decide +kernel
theorem dX11_goThrough_138 : decode cX11_goThrough 138 = .ok (.aload_n 0, 1) := by decide +kernel
theorem dX11_goThrough_139 : decode cX11_goThrough 139 = .ok (.getfield 198, 3) := by decide +kernel
theorem dX11_goThrough_142 : decode cX11_goThrough 142 = .ok (.aload_n 0, 1) := by decide +kernel
theorem dX11_goThrough_143 : decode cX11_goThrough 143 = .ok (.getfield 450, 3) := by decide +kernel
theorem dX11_goThrough_146 : decode cX11_goThrough 146 = .ok (.iaload, 1) := by decide +kernel
theorem dX11_goThrough_147 : decode cX11_goThrough 147 = .ok (.iastore, 1) := by decide +kernel
theorem dX11_goThrough_148 : decode cX11_goThrough 148 = .ok (.iload_n 3, 1) := by decide +kernel
theorem dX11_goThrough_149 : decode cX11_goThrough 149 = .ok (.ifCond .eq 23, 3) := by decide +kernel
theorem dX11_goThrough_152 : decode cX11_goThrough 152 = .ok (.aload_n 0, 1) := by decide +kernel
theorem dX11_goThrough_153 : decode cX11_goThrough 153 = .ok (.getfield 168, 3) := by decide +kernel
theorem dX11_goThrough_156 : decode cX11_goThrough 156 = .ok (.iload_n 2, 1) := by decide +kernel
theorem dX11_goThrough_157 : decode cX11_goThrough 157 = .ok (.iaload, 1) := by decide +kernel
theorem dX11_goThrough_158 : decode cX11_goThrough 158 = .ok (.iconst (-1), 1) := by decide +kernel
theorem dX11_goThrough_159 : decode cX11_goThrough 159 = .ok (.if_icmp .eq 13, 3) := by decide +kernel
theorem dX11_goThrough_162 : decode cX11_goThrough 162 = .ok (.aload_n 0, 1) := by decide +kernel
theorem dX11_goThrough_163 : decode cX11_goThrough 163 = .ok (.getfield 168, 3) := by decide +kernel
theorem dX11_goThrough_166 : decode cX11_goThrough 166 = .ok (.iload_n 2, 1) := by decide +kernel
theorem dX11_goThrough_167 : decode cX11_goThrough 167 = .ok (.iaload, 1) := by decide +kernel
theorem dX11_goThrough_168 : decode cX11_goThrough 168 = .ok (.istore_n 2, 1) := by decide +kernel
theorem dX11_goThrough_169 : decode cX11_goThrough 169 = .ok (.goto (-135), 3) := by decide +kernel
theorem dX11_goThrough_172 : decode cX11_goThrough 172 = .ok (.aload_n 0, 1) := by decide +kernel
theorem dX11_goThrough_173 : decode cX11_goThrough 173 = .ok (.getfield 189, 3) := by decide +kernel
theorem dX11_goThrough_176 : decode cX11_goThrough 176 = .ok (.iload_n 2, 1) := by decide +kernel
theorem dX11_goThrough_177 : decode cX11_goThrough 177 = .ok (.aload_n 0, 1) := by decide +kernel
theorem dX11_goThrough_178 : decode cX11_goThrough 178 = .ok (.iload_n 2, 1) := by decide +kernel
theorem dX11_goThrough_179 : decode cX11_goThrough 179 = .ok (.invokevirtual 694, 3) := by decide +kernel
theorem dX11_goThrough_182 : decode cX11_goThrough 182 = .ok (.iastore, 1) := by decide +kernel
theorem dX11_goThrough_183 : decode cX11_goThrough 183 = .ok (.aload_n 0, 1) := by decide +kernel
theorem dX11_goThrough_184 : decode cX11_goThrough 184 = .ok (.iload_n 2, 1) := by decide +kernel
theorem dX11_goThrough_185 : decode cX11_goThrough 185 = .ok (.iconst 1, 1) := by decide +kernel
theorem dX11_goThrough_186 : decode cX11_goThrough 186 = .ok (.invokevirtual 688, 3) := by decide +kernel
theorem dX11_goThrough_189 : decode cX11_goThrough 189 = .ok (.aload_n 0, 1) := by decide +kernel
theorem dX11_goThrough_190 : decode cX11_goThrough 190 = .ok (.getfield 180, 3) := by decide +kernel
theorem dX11_goThrough_193 : decode cX11_goThrough 193 = .ok (.iload_n 2, 1) := by decide +kernel
theorem dX11_goThrough_194 : decode cX11_goThrough 194 = .ok (.iaload, 1) := by decide +kernel
theorem dX11_goThrough_195 : decode cX11_goThrough 195 = .ok (.istore 4, 2) := by decide +kernel
theorem dX11_goThrough_197 : decode cX11_goThrough 197 = .ok (.iload 4, 2) := by decide +kernel
theorem dX11_goThrough_199 : decode cX11_goThrough 199 = .ok (.iconst (-1), 1) := by decide +kernel
theorem dX11_goThrough_200 : decode cX11_goThrough 200 = .ok (.if_icmp .eq 19, 3) := by decide +kernel
theorem dX11_goThrough_203 : decode cX11_goThrough 203 = .ok (.aload_n 0, 1) := by decide +kernel
theorem dX11_goThrough_204 : decode cX11_goThrough 204 = .ok (.getfield 183, 3) := by decide +kernel
theorem dX11_goThrough_207 : decode cX11_goThrough 207 = .ok (.iload 4, 2) := by decide +kernel
theorem dX11_goThrough_209 : decode cX11_goThrough 209 = .ok (.dup2, 1) := by decide +kernel
theorem dX11_goThrough_210 : decode cX11_goThrough 210 = .ok (.iaload, 1) := by decide +kernel
theorem dX11_goThrough_211 : decode cX11_goThrough 211 = .ok (.aload_n 0, 1) := by decide +kernel
theorem dX11_goThrough_212 : decode cX11_goThrough 212 = .ok (.getfield 183, 3) := by decide +kernel
theorem dX11_goThrough_215 : decode cX11_goThrough 215 = .ok (.iload_n 2, 1) := by decide +kernel
theorem dX11_goThrough_216 : decode cX11_goThrough 216 = .ok (.iaload, 1) := by decide +kernel
theorem dX11_goThrough_217 : decode cX11_goThrough 217 = .ok (.ior, 1) := by decide +kernel
theorem dX11_goThrough_218 : decode cX11_goThrough 218 = .ok (.iastore, 1) := by decide +kernel
theorem dX11_goThrough_219 : decode cX11_goThrough 219 = .ok (.aload_n 0, 1) := by decide +kernel
theorem dX11_goThrough_220 : decode cX11_goThrough 220 = .ok (.getfield 174, 3) := by decide +kernel
theorem dX11_goThrough_223 : decode cX11_goThrough 223 = .ok (.iload_n 2, 1) := by decide +kernel
theorem dX11_goThrough_224 : decode cX11_goThrough 224 = .ok (.iaload, 1) := by decide +kernel
theorem dX11_goThrough_225 : decode cX11_goThrough 225 = .ok (.iconst (-1), 1) := by decide +kernel
theorem dX11_goThrough_226 : decode cX11_goThrough 226 = .ok (.if_icmp .eq 7, 3) := by decide +kernel
theorem dX11_goThrough_229 : decode cX11_goThrough 229 = .ok (.iconst 1, 1) := by decide +kernel
theorem dX11_goThrough_230 : decode cX11_goThrough 230 = .ok (.goto 4, 3) := by decide +kernel
theorem dX11_goThrough_233 : decode cX11_goThrough 233 = .ok (.iconst 0, 1) := by decide +kernel
theorem dX11_goThrough_234 : decode cX11_goThrough 234 = .ok (.istore_n 3, 1) := by decide +kernel
theorem dX11_goThrough_235 : decode cX11_goThrough 235 = .ok (.iload_n 3, 1) := by decide +kernel
theorem dX11_goThrough_236 : decode cX11_goThrough 236 = .ok (.ifCond .eq 12, 3) := by decide +kernel
theorem dX11_goThrough_239 : decode cX11_goThrough 239 = .ok (.aload_n 0, 1) := by decide +kernel
theorem dX11_goThrough_240 : decode cX11_goThrough 240 = .ok (.getfield 174, 3) := by decide +kernel
theorem dX11_goThrough_243 : decode cX11_goThrough 243 = .ok (.iload_n 2, 1) := by decide +kernel
theorem dX11_goThrough_244 : decode cX11_goThrough 244 = .ok (.iaload, 1) := by decide +kernel
theorem dX11_goThrough_245 : decode cX11_goThrough 245 = .ok (.goto 5, 3) := by decide +kernel
theorem dX11_goThrough_248 : decode cX11_goThrough 248 = .ok (.iload 4, 2) := by decide +kernel
theorem dX11_goThrough_250 : decode cX11_goThrough 250 = .ok (.istore_n 2, 1) := by decide +kernel
theorem dX11_goThrough_251 : decode cX11_goThrough 251 = .ok (.goto (-217), 3) := by decide +kernel
theorem dX11_goThrough_254 : decode cX11_goThrough 254 = .ok (.return_, 1) := by decide +kernel
theorem dX11_codeOf_0 : decode cX11_codeOf 0 = .ok (.iconst 2, 1) := by decide +kernel
theorem dX11_codeOf_1 : decode cX11_codeOf 1 = .ok (.istore_n 2, 1) := by decide +kernel
theorem dX11_codeOf_2 : decode cX11_codeOf 2 = .ok (.aload_n 0, 1) := by decide +kernel
theorem dX11_codeOf_3 : decode cX11_codeOf 3 = .ok (.getfield 180, 3) := by decide +kernel
theorem dX11_codeOf_6 : decode cX11_codeOf 6 = .ok (.iload_n 1, 1) := by decide +kernel
theorem dX11_codeOf_7 : decode cX11_codeOf 7 = .ok (.iaload, 1) := by decide +kernel
theorem dX11_codeOf_8 : decode cX11_codeOf 8 = .ok (.istore_n 3, 1) := by decide +kernel
theorem dX11_codeOf_9 : decode cX11_codeOf 9 = .ok (.aload_n 0, 1) := by decide +kernel
theorem dX11_codeOf_10 : decode cX11_codeOf 10 = .ok (.getfield 165, 3) := by decide +kernel
theorem dX11_codeOf_13 : decode cX11_codeOf 13 = .ok (.iload_n 1, 1) := by decide +kernel
theorem dX11_codeOf_14 : decode cX11_codeOf 14 = .ok (.iaload, 1) := by decide +kernel
theorem dX11_codeOf_15 : decode cX11_codeOf 15 = .ok (.iconst (-1), 1) := by decide +kernel
theorem dX11_codeOf_16 : decode cX11_codeOf 16 = .ok (.if_icmp .ne 7, 3) := by decide +kernel
theorem dX11_codeOf_19 : decode cX11_codeOf 19 = .ok (.iconst (-1), 1) := by decide +kernel
theorem dX11_codeOf_20 : decode cX11_codeOf 20 = .ok (.goto 19, 3) := by decide +kernel
theorem dX11_codeOf_23 : decode cX11_codeOf 23 = .ok (.aload_n 0, 1) := by decide +kernel
theorem dX11_codeOf_24 : decode cX11_codeOf 24 = .ok (.getfield 192, 3) := by decide +kernel
theorem dX11_codeOf_27 : decode cX11_codeOf 27 = .ok (.aload_n 0, 1) := by decide +kernel
theorem dX11_codeOf_28 : decode cX11_codeOf 28 = .ok (.getfield 102, 3) := by decide +kernel
theorem dX11_codeOf_31 : decode cX11_codeOf 31 = .ok (.aload_n 0, 1) := by decide +kernel
theorem dX11_codeOf_32 : decode cX11_codeOf 32 = .ok (.getfield 165, 3) := by decide +kernel
theorem dX11_codeOf_35 : decode cX11_codeOf 35 = .ok (.iload_n 1, 1) := by decide +kernel
theorem dX11_codeOf_36 : decode cX11_codeOf 36 = .ok (.iaload, 1) := by decide +kernel
theorem dX11_codeOf_37 : decode cX11_codeOf 37 = .ok (.iaload, 1) := by decide +kernel
theorem dX11_codeOf_38 : decode cX11_codeOf 38 = .ok (.iaload, 1) := by decide +kernel
theorem dX11_codeOf_39 : decode cX11_codeOf 39 = .ok (.istore 4, 2) := by decide +kernel
theorem dX11_codeOf_41 : decode cX11_codeOf 41 = .ok (.aload_n 0, 1) := by decide +kernel
theorem dX11_codeOf_42 : decode cX11_codeOf 42 = .ok (.getfield 162, 3) := by decide +kernel
theorem dX11_codeOf_45 : decode cX11_codeOf 45 = .ok (.iload_n 3, 1) := by decide +kernel
theorem dX11_codeOf_46 : decode cX11_codeOf 46 = .ok (.iaload, 1) := by decide +kernel
theorem dX11_codeOf_47 : decode cX11_codeOf 47 = .ok (.bipush 10, 2) := by decide +kernel
theorem dX11_codeOf_49 : decode cX11_codeOf 49 = .ok (.if_icmp .ne 15, 3) := by decide +kernel
theorem dX11_codeOf_52 : decode cX11_codeOf 52 = .ok (.iload 4, 2) := by decide +kernel
theorem dX11_codeOf_54 : decode cX11_codeOf 54 = .ok (.iconst (-1), 1) := by decide +kernel
theorem dX11_codeOf_55 : decode cX11_codeOf 55 = .ok (.if_icmp .eq 38, 3) := by decide +kernel
theorem dX11_codeOf_58 : decode cX11_codeOf 58 = .ok (.iload_n 3, 1) := by decide +kernel
theorem dX11_codeOf_59 : decode cX11_codeOf 59 = .ok (.iload 4, 2) := by decide +kernel
theorem dX11_codeOf_61 : decode cX11_codeOf 61 = .ok (.if_icmp .eq 32, 3) := by decide +kernel
theorem dX11_codeOf_64 : decode cX11_codeOf 64 = .ok (.iload_n 2, 1) := by decide +kernel
theorem dX11_codeOf_65 : decode cX11_codeOf 65 = .ok (.aload_n 0, 1) := by decide +kernel
theorem dX11_codeOf_66 : decode cX11_codeOf 66 = .ok (.getfield 162, 3) := by decide +kernel
theorem dX11_codeOf_69 : decode cX11_codeOf 69 = .ok (.iload_n 3, 1) := by decide +kernel
theorem dX11_codeOf_70 : decode cX11_codeOf 70 = .ok (.iaload, 1) := by decide +kernel
theorem dX11_codeOf_71 : decode cX11_codeOf 71 = .ok (.bipush 10, 2) := by decide +kernel
theorem dX11_codeOf_73 : decode cX11_codeOf 73 = .ok (.if_icmp .ne 7, 3) := by decide +kernel
theorem dX11_codeOf_76 : decode cX11_codeOf 76 = .ok (.iconst 1, 1) := by decide +kernel
theorem dX11_codeOf_77 : decode cX11_codeOf 77 = .ok (.goto 4, 3) := by decide +kernel
theorem dX11_codeOf_80 : decode cX11_codeOf 80 = .ok (.iconst 0, 1) := by decide +kernel
theorem dX11_codeOf_81 : decode cX11_codeOf 81 = .ok (.iadd, 1) := by decide +kernel
theorem dX11_codeOf_82 : decode cX11_codeOf 82 = .ok (.istore_n 2, 1) := by decide +kernel
theorem dX11_codeOf_83 : decode cX11_codeOf 83 = .ok (.aload_n 0, 1) := by decide +kernel
theorem dX11_codeOf_84 : decode cX11_codeOf 84 = .ok (.getfield 180, 3) := by decide +kernel
theorem dX11_codeOf_87 : decode cX11_codeOf 87 = .ok (.iload_n 3, 1) := by decide +kernel
theorem dX11_codeOf_88 : decode cX11_codeOf 88 = .ok (.iaload, 1) := by decide +kernel
theorem dX11_codeOf_89 : decode cX11_codeOf 89 = .ok (.istore_n 3, 1) := by decide +kernel
theorem dX11_codeOf_90 : decode cX11_codeOf 90 = .ok (.goto (-49), 3) := by decide +kernel
theorem dX11_codeOf_93 : decode cX11_codeOf 93 = .ok (.iload_n 2, 1) := by decide +kernel
theorem dX11_codeOf_94 : decode cX11_codeOf 94 = .ok (.ireturn, 1) := by decide +kernel
theorem dX11_lowest_0 : decode cX11_lowest 0 = .ok (.iconst 0, 1) := by decide +kernel
theorem dX11_lowest_1 : decode cX11_lowest 1 = .ok (.istore_n 1, 1) := by decide +kernel
theorem dX11_lowest_2 : decode cX11_lowest 2 = .ok (.iload_n 1, 1) := by decide +kernel
theorem dX11_lowest_3 : decode cX11_lowest 3 = .ok (.bipush 30, 2) := by decide +kernel
theorem dX11_lowest_5 : decode cX11_lowest 5 = .ok (.if_icmp .ge 17, 3) := by decide +kernel
theorem dX11_lowest_8 : decode cX11_lowest 8 = .ok (.iload_n 0, 1) := by decide +kernel
theorem dX11_lowest_9 : decode cX11_lowest 9 = .ok (.iload_n 1, 1) := by decide +kernel
theorem dX11_lowest_10 : decode cX11_lowest 10 = .ok (.ishr, 1) := by decide +kernel
theorem dX11_lowest_11 : decode cX11_lowest 11 = .ok (.iconst 1, 1) := by decide +kernel
theorem dX11_lowest_12 : decode cX11_lowest 12 = .ok (.iand, 1) := by decide +kernel
theorem dX11_lowest_13 : decode cX11_lowest 13 = .ok (.ifCond .ne 9, 3) := by decide +kernel
theorem dX11_lowest_16 : decode cX11_lowest 16 = .ok (.iinc 1 1, 3) := by decide +kernel
theorem dX11_lowest_19 : decode cX11_lowest 19 = .ok (.goto (-17), 3) := by decide +kernel
theorem dX11_lowest_22 : decode cX11_lowest 22 = .ok (.iload_n 1, 1) := by decide +kernel
theorem dX11_lowest_23 : decode cX11_lowest 23 = .ok (.ireturn, 1) := by decide +kernel
theorem dX11_codes_0 : decode cX11_codes 0 = .ok (.iconst 0, 1) := by decide +kernel
theorem dX11_codes_1 : decode cX11_codes 1 = .ok (.istore_n 2, 1) := by decide +kernel
theorem dX11_codes_2 : decode cX11_codes 2 = .ok (.aload_n 0, 1) := by decide +kernel
theorem dX11_codes_3 : decode cX11_codes 3 = .ok (.getfield 168, 3) := by decide +kernel
theorem dX11_codes_6 : decode cX11_codes 6 = .ok (.iload_n 1, 1) := by decide +kernel
theorem dX11_codes_7 : decode cX11_codes 7 = .ok (.iaload, 1) := by decide +kernel
theorem dX11_codes_8 : decode cX11_codes 8 = .ok (.istore_n 3, 1) := by decide +kernel
theorem dX11_codes_9 : decode cX11_codes 9 = .ok (.aload_n 0, 1) := by decide +kernel
theorem dX11_codes_10 : decode cX11_codes 10 = .ok (.getfield 162, 3) := by decide +kernel
theorem dX11_codes_13 : decode cX11_codes 13 = .ok (.iload_n 1, 1) := by decide +kernel
theorem dX11_codes_14 : decode cX11_codes 14 = .ok (.iaload, 1) := by decide +kernel
theorem dX11_codes_15 : decode cX11_codes 15 = .ok (.tableswitch 280 2 10 #[49, 51, 60, 60, 93, 134, 144, 151, 248], 49) := by decide +kernel
theorem dX11_codes_64 : decode cX11_codes 64 = .ok (.iconst 2, 1) := by decide +kernel
theorem dX11_codes_65 : decode cX11_codes 65 = .ok (.ireturn, 1) := by decide +kernel
theorem dX11_codes_66 : decode cX11_codes 66 = .ok (.iconst 1, 1) := by decide +kernel
theorem dX11_codes_67 : decode cX11_codes 67 = .ok (.aload_n 0, 1) := by decide +kernel
theorem dX11_codes_68 : decode cX11_codes 68 = .ok (.getfield 186, 3) := by decide +kernel
theorem dX11_codes_71 : decode cX11_codes 71 = .ok (.iload_n 1, 1) := by decide +kernel
theorem dX11_codes_72 : decode cX11_codes 72 = .ok (.iaload, 1) := by decide +kernel
theorem dX11_codes_73 : decode cX11_codes 73 = .ok (.ishl, 1) := by decide +kernel
theorem dX11_codes_74 : decode cX11_codes 74 = .ok (.ireturn, 1) := by decide +kernel
theorem dX11_codes_75 : decode cX11_codes 75 = .ok (.aload_n 0, 1) := by decide +kernel
theorem dX11_codes_76 : decode cX11_codes 76 = .ok (.getfield 189, 3) := by decide +kernel
theorem dX11_codes_79 : decode cX11_codes 79 = .ok (.iload_n 3, 1) := by decide +kernel
theorem dX11_codes_80 : decode cX11_codes 80 = .ok (.iaload, 1) := by decide +kernel
theorem dX11_codes_81 : decode cX11_codes 81 = .ok (.aload_n 0, 1) := by decide +kernel
theorem dX11_codes_82 : decode cX11_codes 82 = .ok (.getfield 174, 3) := by decide +kernel
theorem dX11_codes_85 : decode cX11_codes 85 = .ok (.iload_n 3, 1) := by decide +kernel
theorem dX11_codes_86 : decode cX11_codes 86 = .ok (.iaload, 1) := by decide +kernel
theorem dX11_codes_87 : decode cX11_codes 87 = .ok (.iconst (-1), 1) := by decide +kernel
theorem dX11_codes_88 : decode cX11_codes 88 = .ok (.if_icmp .ne 7, 3) := by decide +kernel
theorem dX11_codes_91 : decode cX11_codes 91 = .ok (.iconst 1, 1) := by decide +kernel
theorem dX11_codes_92 : decode cX11_codes 92 = .ok (.goto 14, 3) := by decide +kernel
theorem dX11_codes_95 : decode cX11_codes 95 = .ok (.aload_n 0, 1) := by decide +kernel
theorem dX11_codes_96 : decode cX11_codes 96 = .ok (.getfield 189, 3) := by decide +kernel
theorem dX11_codes_99 : decode cX11_codes 99 = .ok (.aload_n 0, 1) := by decide +kernel
theorem dX11_codes_100 : decode cX11_codes 100 = .ok (.getfield 174, 3) := by decide +kernel
theorem dX11_codes_103 : decode cX11_codes 103 = .ok (.iload_n 3, 1) := by decide +kernel
theorem dX11_codes_104 : decode cX11_codes 104 = .ok (.iaload, 1) := by decide +kernel
theorem dX11_codes_105 : decode cX11_codes 105 = .ok (.iaload, 1) := by decide +kernel
theorem dX11_codes_106 : decode cX11_codes 106 = .ok (.ior, 1) := by decide +kernel
theorem dX11_codes_107 : decode cX11_codes 107 = .ok (.ireturn, 1) := by decide +kernel
theorem dX11_codes_108 : decode cX11_codes 108 = .ok (.iconst 1, 1) := by decide +kernel
theorem dX11_codes_109 : decode cX11_codes 109 = .ok (.istore_n 2, 1) := by decide +kernel
theorem dX11_codes_110 : decode cX11_codes 110 = .ok (.iload_n 3, 1) := by decide +kernel
theorem dX11_codes_111 : decode cX11_codes 111 = .ok (.iconst (-1), 1) := by decide +kernel
theorem dX11_codes_112 : decode cX11_codes 112 = .ok (.if_icmp .eq 35, 3) := by decide +kernel
theorem dX11_codes_115 : decode cX11_codes 115 = .ok (.iload_n 2, 1) := by decide +kernel
theorem dX11_codes_116 : decode cX11_codes 116 = .ok (.bipush (-2), 2) := by decide +kernel
theorem dX11_codes_118 : decode cX11_codes 118 = .ok (.iand, 1) := by decide +kernel
theorem dX11_codes_119 : decode cX11_codes 119 = .ok (.iload_n 2, 1) := by decide +kernel
theorem dX11_codes_120 : decode cX11_codes 120 = .ok (.iconst 1, 1) := by decide +kernel
theorem dX11_codes_121 : decode cX11_codes 121 = .ok (.iand, 1) := by decide +kernel
theorem dX11_codes_122 : decode cX11_codes 122 = .ok (.ifCond .eq 12, 3) := by decide +kernel
theorem dX11_codes_125 : decode cX11_codes 125 = .ok (.aload_n 0, 1) := by decide +kernel
theorem dX11_codes_126 : decode cX11_codes 126 = .ok (.getfield 189, 3) := by decide +kernel
theorem dX11_codes_129 : decode cX11_codes 129 = .ok (.iload_n 3, 1) := by decide +kernel
theorem dX11_codes_130 : decode cX11_codes 130 = .ok (.iaload, 1) := by decide +kernel
theorem dX11_codes_131 : decode cX11_codes 131 = .ok (.goto 4, 3) := by decide +kernel
theorem dX11_codes_134 : decode cX11_codes 134 = .ok (.iconst 0, 1) := by decide +kernel
theorem dX11_codes_135 : decode cX11_codes 135 = .ok (.ior, 1) := by decide +kernel
theorem dX11_codes_136 : decode cX11_codes 136 = .ok (.istore_n 2, 1) := by decide +kernel
theorem dX11_codes_137 : decode cX11_codes 137 = .ok (.aload_n 0, 1) := by decide +kernel
theorem dX11_codes_138 : decode cX11_codes 138 = .ok (.getfield 174, 3) := by decide +kernel
theorem dX11_codes_141 : decode cX11_codes 141 = .ok (.iload_n 3, 1) := by decide +kernel
theorem dX11_codes_142 : decode cX11_codes 142 = .ok (.iaload, 1) := by decide +kernel
theorem dX11_codes_143 : decode cX11_codes 143 = .ok (.istore_n 3, 1) := by decide +kernel
theorem dX11_codes_144 : decode cX11_codes 144 = .ok (.goto (-34), 3) := by decide +kernel
theorem dX11_codes_147 : decode cX11_codes 147 = .ok (.iload_n 2, 1) := by decide +kernel
theorem dX11_codes_148 : decode cX11_codes 148 = .ok (.ireturn, 1) := by decide +kernel
theorem dX11_codes_149 : decode cX11_codes 149 = .ok (.aload_n 0, 1) := by decide +kernel
theorem dX11_codes_150 : decode cX11_codes 150 = .ok (.getfield 189, 3) := by decide +kernel
theorem dX11_codes_153 : decode cX11_codes 153 = .ok (.iload_n 3, 1) := by decide +kernel
theorem dX11_codes_154 : decode cX11_codes 154 = .ok (.iaload, 1) := by decide +kernel
theorem dX11_codes_155 : decode cX11_codes 155 = .ok (.bipush (-2), 2) := by decide +kernel
theorem dX11_codes_157 : decode cX11_codes 157 = .ok (.iand, 1) := by decide +kernel
theorem dX11_codes_158 : decode cX11_codes 158 = .ok (.ireturn, 1) := by decide +kernel
theorem dX11_codes_159 : decode cX11_codes 159 = .ok (.aload_n 0, 1) := by decide +kernel
theorem dX11_codes_160 : decode cX11_codes 160 = .ok (.getfield 189, 3) := by decide +kernel
theorem dX11_codes_163 : decode cX11_codes 163 = .ok (.iload_n 3, 1) := by decide +kernel
theorem dX11_codes_164 : decode cX11_codes 164 = .ok (.iaload, 1) := by decide +kernel
theorem dX11_codes_165 : decode cX11_codes 165 = .ok (.ireturn, 1) := by decide +kernel
theorem dX11_codes_166 : decode cX11_codes 166 = .ok (.aload_n 0, 1) := by decide +kernel
theorem dX11_codes_167 : decode cX11_codes 167 = .ok (.getfield 189, 3) := by decide +kernel
theorem dX11_codes_170 : decode cX11_codes 170 = .ok (.iload_n 3, 1) := by decide +kernel
theorem dX11_codes_171 : decode cX11_codes 171 = .ok (.iaload, 1) := by decide +kernel
theorem dX11_codes_172 : decode cX11_codes 172 = .ok (.istore_n 2, 1) := by decide +kernel
theorem dX11_codes_173 : decode cX11_codes 173 = .ok (.aload_n 0, 1) := by decide +kernel
theorem dX11_codes_174 : decode cX11_codes 174 = .ok (.getfield 174, 3) := by decide +kernel
theorem dX11_codes_177 : decode cX11_codes 177 = .ok (.iload_n 3, 1) := by decide +kernel
theorem dX11_codes_178 : decode cX11_codes 178 = .ok (.iaload, 1) := by decide +kernel
theorem dX11_codes_179 : decode cX11_codes 179 = .ok (.istore_n 3, 1) := by decide +kernel
theorem dX11_codes_180 : decode cX11_codes 180 = .ok (.iload_n 3, 1) := by decide +kernel
theorem dX11_codes_181 : decode cX11_codes 181 = .ok (.iconst (-1), 1) := by decide +kernel
theorem dX11_codes_182 : decode cX11_codes 182 = .ok (.if_icmp .eq 79, 3) := by decide +kernel
theorem dX11_codes_185 : decode cX11_codes 185 = .ok (.iload_n 2, 1) := by decide +kernel
theorem dX11_codes_186 : decode cX11_codes 186 = .ok (.invokestatic 697, 3) := by decide +kernel
theorem dX11_codes_189 : decode cX11_codes 189 = .ok (.aload_n 0, 1) := by decide +kernel
theorem dX11_codes_190 : decode cX11_codes 190 = .ok (.getfield 189, 3) := by decide +kernel
theorem dX11_codes_193 : decode cX11_codes 193 = .ok (.iload_n 3, 1) := by decide +kernel
theorem dX11_codes_194 : decode cX11_codes 194 = .ok (.iaload, 1) := by decide +kernel
theorem dX11_codes_195 : decode cX11_codes 195 = .ok (.invokestatic 697, 3) := by decide +kernel
theorem dX11_codes_198 : decode cX11_codes 198 = .ok (.if_icmp .le 10, 3) := by decide +kernel
theorem dX11_codes_201 : decode cX11_codes 201 = .ok (.iload_n 2, 1) := by decide +kernel
theorem dX11_codes_202 : decode cX11_codes 202 = .ok (.invokestatic 697, 3) := by decide +kernel
theorem dX11_codes_205 : decode cX11_codes 205 = .ok (.goto 12, 3) := by decide +kernel
theorem dX11_codes_208 : decode cX11_codes 208 = .ok (.aload_n 0, 1) := by decide +kernel
theorem dX11_codes_209 : decode cX11_codes 209 = .ok (.getfield 189, 3) := by decide +kernel
theorem dX11_codes_212 : decode cX11_codes 212 = .ok (.iload_n 3, 1) := by decide +kernel
theorem dX11_codes_213 : decode cX11_codes 213 = .ok (.iaload, 1) := by decide +kernel
theorem dX11_codes_214 : decode cX11_codes 214 = .ok (.invokestatic 697, 3) := by decide +kernel
theorem dX11_codes_217 : decode cX11_codes 217 = .ok (.istore 4, 2) := by decide +kernel
theorem dX11_codes_219 : decode cX11_codes 219 = .ok (.iload_n 2, 1) := by decide +kernel
theorem dX11_codes_220 : decode cX11_codes 220 = .ok (.ifCond .eq 12, 3) := by decide +kernel
theorem dX11_codes_223 : decode cX11_codes 223 = .ok (.aload_n 0, 1) := by decide +kernel
theorem dX11_codes_224 : decode cX11_codes 224 = .ok (.getfield 189, 3) := by decide +kernel
theorem dX11_codes_227 : decode cX11_codes 227 = .ok (.iload_n 3, 1) := by decide +kernel
theorem dX11_codes_228 : decode cX11_codes 228 = .ok (.iaload, 1) := by decide +kernel
theorem dX11_codes_229 : decode cX11_codes 229 = .ok (.ifCond .ne 7, 3) := by decide +kernel
theorem dX11_codes_232 : decode cX11_codes 232 = .ok (.iconst 0, 1) := by decide +kernel
theorem dX11_codes_233 : decode cX11_codes 233 = .ok (.goto 17, 3) := by decide +kernel
theorem dX11_codes_236 : decode cX11_codes 236 = .ok (.iload_n 2, 1) := by decide +kernel
theorem dX11_codes_237 : decode cX11_codes 237 = .ok (.aload_n 0, 1) := by decide +kernel
theorem dX11_codes_238 : decode cX11_codes 238 = .ok (.getfield 189, 3) := by decide +kernel
theorem dX11_codes_241 : decode cX11_codes 241 = .ok (.iload_n 3, 1) := by decide +kernel
theorem dX11_codes_242 : decode cX11_codes 242 = .ok (.iaload, 1) := by decide +kernel
theorem dX11_codes_243 : decode cX11_codes 243 = .ok (.ior, 1) := by decide +kernel
theorem dX11_codes_244 : decode cX11_codes 244 = .ok (.iload 4, 2) := by decide +kernel
theorem dX11_codes_246 : decode cX11_codes 246 = .ok (.ishr, 1) := by decide +kernel
theorem dX11_codes_247 : decode cX11_codes 247 = .ok (.iload 4, 2) := by decide +kernel
theorem dX11_codes_249 : decode cX11_codes 249 = .ok (.ishl, 1) := by decide +kernel
theorem dX11_codes_250 : decode cX11_codes 250 = .ok (.istore_n 2, 1) := by decide +kernel
theorem dX11_codes_251 : decode cX11_codes 251 = .ok (.aload_n 0, 1) := by decide +kernel
theorem dX11_codes_252 : decode cX11_codes 252 = .ok (.getfield 174, 3) := by decide +kernel
theorem dX11_codes_255 : decode cX11_codes 255 = .ok (.iload_n 3, 1) := by decide +kernel
theorem dX11_codes_256 : decode cX11_codes 256 = .ok (.iaload, 1) := by decide +kernel
theorem dX11_codes_257 : decode cX11_codes 257 = .ok (.istore_n 3, 1) := by decide +kernel
theorem dX11_codes_258 : decode cX11_codes 258 = .ok (.goto (-78), 3) := by decide +kernel
theorem dX11_codes_261 : decode cX11_codes 261 = .ok (.iload_n 2, 1) := by decide +kernel
theorem dX11_codes_262 : decode cX11_codes 262 = .ok (.ireturn, 1) := by decide +kernel
theorem dX11_codes_263 : decode cX11_codes 263 = .ok (.aload_n 0, 1) := by decide +kernel
theorem dX11_codes_264 : decode cX11_codes 264 = .ok (.getfield 189, 3) := by decide +kernel
theorem dX11_codes_267 : decode cX11_codes 267 = .ok (.iload_n 3, 1) := by decide +kernel
theorem dX11_codes_268 : decode cX11_codes 268 = .ok (.iaload, 1) := by decide +kernel
theorem dX11_codes_269 : decode cX11_codes 269 = .ok (.iconst 3, 1) := by decide +kernel
theorem dX11_codes_270 : decode cX11_codes 270 = .ok (.iand, 1) := by decide +kernel
theorem dX11_codes_271 : decode cX11_codes 271 = .ok (.aload_n 0, 1) := by decide +kernel
theorem dX11_codes_272 : decode cX11_codes 272 = .ok (.getfield 189, 3) := by decide +kernel
theorem dX11_codes_275 : decode cX11_codes 275 = .ok (.iload_n 3, 1) := by decide +kernel
theorem dX11_codes_276 : decode cX11_codes 276 = .ok (.iaload, 1) := by decide +kernel
theorem dX11_codes_277 : decode cX11_codes 277 = .ok (.iconst 2, 1) := by decide +kernel
theorem dX11_codes_278 : decode cX11_codes 278 = .ok (.ishr, 1) := by decide +kernel
theorem dX11_codes_279 : decode cX11_codes 279 = .ok (.iconst 1, 1) := by decide +kernel
theorem dX11_codes_280 : decode cX11_codes 280 = .ok (.iand, 1) := by decide +kernel
theorem dX11_codes_281 : decode cX11_codes 281 = .ok (.ior, 1) := by decide +kernel
theorem dX11_codes_282 : decode cX11_codes 282 = .ok (.aload_n 0, 1) := by decide +kernel
theorem dX11_codes_283 : decode cX11_codes 283 = .ok (.getfield 189, 3) := by decide +kernel
theorem dX11_codes_286 : decode cX11_codes 286 = .ok (.iload_n 3, 1) := by decide +kernel
theorem dX11_codes_287 : decode cX11_codes 287 = .ok (.iaload, 1) := by decide +kernel
theorem dX11_codes_288 : decode cX11_codes 288 = .ok (.iconst 1, 1) := by decide +kernel
theorem dX11_codes_289 : decode cX11_codes 289 = .ok (.ishr, 1) := by decide +kernel
theorem dX11_codes_290 : decode cX11_codes 290 = .ok (.bipush (-4), 2) := by decide +kernel
theorem dX11_codes_292 : decode cX11_codes 292 = .ok (.iand, 1) := by decide +kernel
theorem dX11_codes_293 : decode cX11_codes 293 = .ok (.ior, 1) := by decide +kernel
theorem dX11_codes_294 : decode cX11_codes 294 = .ok (.ireturn, 1) := by decide +kernel
theorem dX11_codes_295 : decode cX11_codes 295 = .ok (.iconst 1, 1) := by decide +kernel
theorem dX11_codes_296 : decode cX11_codes 296 = .ok (.ireturn, 1) := by decide +kernel
theorem dX11_usesIn_0 : decode cX11_usesIn 0 = .ok (.iconst 0, 1) := by decide +kernel
theorem dX11_usesIn_1 : decode cX11_usesIn 1 = .ok (.istore_n 3, 1) := by decide +kernel
theorem dX11_usesIn_2 : decode cX11_usesIn 2 = .ok (.iload_n 1, 1) := by decide +kernel
theorem dX11_usesIn_3 : decode cX11_usesIn 3 = .ok (.istore 4, 2) := by decide +kernel
theorem dX11_usesIn_5 : decode cX11_usesIn 5 = .ok (.iload_n 2, 1) := by decide +kernel
theorem dX11_usesIn_6 : decode cX11_usesIn 6 = .ok (.iconst (-1), 1) := by decide +kernel
theorem dX11_usesIn_7 : decode cX11_usesIn 7 = .ok (.if_icmp .eq 43, 3) := by decide +kernel
theorem dX11_usesIn_10 : decode cX11_usesIn 10 = .ok (.iload 4, 2) := by decide +kernel
theorem dX11_usesIn_12 : decode cX11_usesIn 12 = .ok (.iload_n 2, 1) := by decide +kernel
theorem dX11_usesIn_13 : decode cX11_usesIn 13 = .ok (.if_icmp .gt 37, 3) := by decide +kernel
theorem dX11_usesIn_16 : decode cX11_usesIn 16 = .ok (.iload_n 3, 1) := by decide +kernel
theorem dX11_usesIn_17 : decode cX11_usesIn 17 = .ok (.aload_n 0, 1) := by decide +kernel
theorem dX11_usesIn_18 : decode cX11_usesIn 18 = .ok (.getfield 69, 3) := by decide +kernel
theorem dX11_usesIn_21 : decode cX11_usesIn 21 = .ok (.iload 4, 2) := by decide +kernel
theorem dX11_usesIn_23 : decode cX11_usesIn 23 = .ok (.iaload, 1) := by decide +kernel
theorem dX11_usesIn_24 : decode cX11_usesIn 24 = .ok (.iconst 1, 1) := by decide +kernel
theorem dX11_usesIn_25 : decode cX11_usesIn 25 = .ok (.if_icmp .ne 16, 3) := by decide +kernel
theorem dX11_usesIn_28 : decode cX11_usesIn 28 = .ok (.iconst 1, 1) := by decide +kernel
theorem dX11_usesIn_29 : decode cX11_usesIn 29 = .ok (.aload_n 0, 1) := by decide +kernel
theorem dX11_usesIn_30 : decode cX11_usesIn 30 = .ok (.getfield 72, 3) := by decide +kernel
theorem dX11_usesIn_33 : decode cX11_usesIn 33 = .ok (.iload 4, 2) := by decide +kernel
theorem dX11_usesIn_35 : decode cX11_usesIn 35 = .ok (.laload, 1) := by decide +kernel
theorem dX11_usesIn_36 : decode cX11_usesIn 36 = .ok (.l2i, 1) := by decide +kernel
theorem dX11_usesIn_37 : decode cX11_usesIn 37 = .ok (.ishl, 1) := by decide +kernel
theorem dX11_usesIn_38 : decode cX11_usesIn 38 = .ok (.goto 4, 3) := by decide +kernel
theorem dX11_usesIn_41 : decode cX11_usesIn 41 = .ok (.iconst 0, 1) := by decide +kernel
theorem dX11_usesIn_42 : decode cX11_usesIn 42 = .ok (.ior, 1) := by decide +kernel
theorem dX11_usesIn_43 : decode cX11_usesIn 43 = .ok (.istore_n 3, 1) := by decide +kernel
theorem dX11_usesIn_44 : decode cX11_usesIn 44 = .ok (.iinc 4 1, 3) := by decide +kernel
theorem dX11_usesIn_47 : decode cX11_usesIn 47 = .ok (.goto (-42), 3) := by decide +kernel
theorem dX11_usesIn_50 : decode cX11_usesIn 50 = .ok (.iload_n 3, 1) := by decide +kernel
theorem dX11_usesIn_51 : decode cX11_usesIn 51 = .ok (.ireturn, 1) := by decide +kernel
theorem dX11_usesOf_0 : decode cX11_usesOf 0 = .ok (.aload_n 0, 1) := by decide +kernel
theorem dX11_usesOf_1 : decode cX11_usesOf 1 = .ok (.aload_n 0, 1) := by decide +kernel
theorem dX11_usesOf_2 : decode cX11_usesOf 2 = .ok (.getfield 114, 3) := by decide +kernel
theorem dX11_usesOf_5 : decode cX11_usesOf 5 = .ok (.iload_n 1, 1) := by decide +kernel
theorem dX11_usesOf_6 : decode cX11_usesOf 6 = .ok (.iaload, 1) := by decide +kernel
theorem dX11_usesOf_7 : decode cX11_usesOf 7 = .ok (.aload_n 0, 1) := by decide +kernel
theorem dX11_usesOf_8 : decode cX11_usesOf 8 = .ok (.getfield 117, 3) := by decide +kernel
theorem dX11_usesOf_11 : decode cX11_usesOf 11 = .ok (.iload_n 1, 1) := by decide +kernel
theorem dX11_usesOf_12 : decode cX11_usesOf 12 = .ok (.iaload, 1) := by decide +kernel
theorem dX11_usesOf_13 : decode cX11_usesOf 13 = .ok (.invokevirtual 700, 3) := by decide +kernel
theorem dX11_usesOf_16 : decode cX11_usesOf 16 = .ok (.aload_n 0, 1) := by decide +kernel
theorem dX11_usesOf_17 : decode cX11_usesOf 17 = .ok (.aload_n 0, 1) := by decide +kernel
theorem dX11_usesOf_18 : decode cX11_usesOf 18 = .ok (.getfield 120, 3) := by decide +kernel
theorem dX11_usesOf_21 : decode cX11_usesOf 21 = .ok (.iload_n 1, 1) := by decide +kernel
theorem dX11_usesOf_22 : decode cX11_usesOf 22 = .ok (.iaload, 1) := by decide +kernel
theorem dX11_usesOf_23 : decode cX11_usesOf 23 = .ok (.aload_n 0, 1) := by decide +kernel
theorem dX11_usesOf_24 : decode cX11_usesOf 24 = .ok (.getfield 123, 3) := by decide +kernel
theorem dX11_usesOf_27 : decode cX11_usesOf 27 = .ok (.iload_n 1, 1) := by decide +kernel
theorem dX11_usesOf_28 : decode cX11_usesOf 28 = .ok (.iaload, 1) := by decide +kernel
theorem dX11_usesOf_29 : decode cX11_usesOf 29 = .ok (.invokevirtual 700, 3) := by decide +kernel
theorem dX11_usesOf_32 : decode cX11_usesOf 32 = .ok (.ior, 1) := by decide +kernel
theorem dX11_usesOf_33 : decode cX11_usesOf 33 = .ok (.ireturn, 1) := by decide +kernel
theorem dX11_clashes_0 : decode cX11_clashes 0 = .ok (.iconst 0, 1) := by decide +kernel
theorem dX11_clashes_1 : decode cX11_clashes 1 = .ok (.istore_n 2, 1) := by decide +kernel
theorem dX11_clashes_2 : decode cX11_clashes 2 = .ok (.iconst 0, 1) := by decide +kernel
theorem dX11_clashes_3 : decode cX11_clashes 3 = .ok (.istore_n 3, 1) := by decide +kernel
theorem dX11_clashes_4 : decode cX11_clashes 4 = .ok (.iconst 0, 1) := by decide +kernel
theorem dX11_clashes_5 : decode cX11_clashes 5 = .ok (.istore 4, 2) := by decide +kernel
theorem dX11_clashes_7 : decode cX11_clashes 7 = .ok (.aload_n 0, 1) := by decide +kernel
theorem dX11_clashes_8 : decode cX11_clashes 8 = .ok (.getfield 129, 3) := by decide +kernel
theorem dX11_clashes_11 : decode cX11_clashes 11 = .ok (.iload_n 1, 1) := by decide +kernel
theorem dX11_clashes_12 : decode cX11_clashes 12 = .ok (.iaload, 1) := by decide +kernel
theorem dX11_clashes_13 : decode cX11_clashes 13 = .ok (.istore 5, 2) := by decide +kernel
theorem dX11_clashes_15 : decode cX11_clashes 15 = .ok (.iload 5, 2) := by decide +kernel
theorem dX11_clashes_17 : decode cX11_clashes 17 = .ok (.iconst (-1), 1) := by decide +kernel
theorem dX11_clashes_18 : decode cX11_clashes 18 = .ok (.if_icmp .eq 132, 3) := by decide +kernel
theorem dX11_clashes_21 : decode cX11_clashes 21 = .ok (.iconst 0, 1) := by decide +kernel
theorem dX11_clashes_22 : decode cX11_clashes 22 = .ok (.istore 6, 2) := by decide +kernel
theorem dX11_clashes_24 : decode cX11_clashes 24 = .ok (.iconst 0, 1) := by decide +kernel
theorem dX11_clashes_25 : decode cX11_clashes 25 = .ok (.istore 7, 2) := by decide +kernel
theorem dX11_clashes_27 : decode cX11_clashes 27 = .ok (.aload_n 0, 1) := by decide +kernel
theorem dX11_clashes_28 : decode cX11_clashes 28 = .ok (.getfield 141, 3) := by decide +kernel
theorem dX11_clashes_31 : decode cX11_clashes 31 = .ok (.iload 5, 2) := by decide +kernel
theorem dX11_clashes_33 : decode cX11_clashes 33 = .ok (.iaload, 1) := by decide +kernel
theorem dX11_clashes_34 : decode cX11_clashes 34 = .ok (.istore 8, 2) := by decide +kernel
theorem dX11_clashes_36 : decode cX11_clashes 36 = .ok (.iload 8, 2) := by decide +kernel
theorem dX11_clashes_38 : decode cX11_clashes 38 = .ok (.aload_n 0, 1) := by decide +kernel
theorem dX11_clashes_39 : decode cX11_clashes 39 = .ok (.getfield 135, 3) := by decide +kernel
theorem dX11_clashes_42 : decode cX11_clashes 42 = .ok (.aload_n 0, 1) := by decide +kernel
theorem dX11_clashes_43 : decode cX11_clashes 43 = .ok (.getfield 144, 3) := by decide +kernel
theorem dX11_clashes_46 : decode cX11_clashes 46 = .ok (.iload 5, 2) := by decide +kernel
theorem dX11_clashes_48 : decode cX11_clashes 48 = .ok (.iaload, 1) := by decide +kernel
theorem dX11_clashes_49 : decode cX11_clashes 49 = .ok (.iaload, 1) := by decide +kernel
theorem dX11_clashes_50 : decode cX11_clashes 50 = .ok (.if_icmp .ge 50, 3) := by decide +kernel
theorem dX11_clashes_53 : decode cX11_clashes 53 = .ok (.iload 6, 2) := by decide +kernel
theorem dX11_clashes_55 : decode cX11_clashes 55 = .ok (.aload_n 0, 1) := by decide +kernel
theorem dX11_clashes_56 : decode cX11_clashes 56 = .ok (.getfield 96, 3) := by decide +kernel
theorem dX11_clashes_59 : decode cX11_clashes 59 = .ok (.iload 8, 2) := by decide +kernel
theorem dX11_clashes_61 : decode cX11_clashes 61 = .ok (.iaload, 1) := by decide +kernel
theorem dX11_clashes_62 : decode cX11_clashes 62 = .ok (.bipush 15, 2) := by decide +kernel
theorem dX11_clashes_64 : decode cX11_clashes 64 = .ok (.if_icmp .ne 15, 3) := by decide +kernel
theorem dX11_clashes_67 : decode cX11_clashes 67 = .ok (.iconst 1, 1) := by decide +kernel
theorem dX11_clashes_68 : decode cX11_clashes 68 = .ok (.aload_n 0, 1) := by decide +kernel
theorem dX11_clashes_69 : decode cX11_clashes 69 = .ok (.getfield 102, 3) := by decide +kernel
theorem dX11_clashes_72 : decode cX11_clashes 72 = .ok (.iload 8, 2) := by decide +kernel
theorem dX11_clashes_74 : decode cX11_clashes 74 = .ok (.iaload, 1) := by decide +kernel
theorem dX11_clashes_75 : decode cX11_clashes 75 = .ok (.ishl, 1) := by decide +kernel
theorem dX11_clashes_76 : decode cX11_clashes 76 = .ok (.goto 4, 3) := by decide +kernel
theorem dX11_clashes_79 : decode cX11_clashes 79 = .ok (.iconst 0, 1) := by decide +kernel
theorem dX11_clashes_80 : decode cX11_clashes 80 = .ok (.ior, 1) := by decide +kernel
theorem dX11_clashes_81 : decode cX11_clashes 81 = .ok (.istore 6, 2) := by decide +kernel
theorem dX11_clashes_83 : decode cX11_clashes 83 = .ok (.iload 7, 2) := by decide +kernel
theorem dX11_clashes_85 : decode cX11_clashes 85 = .ok (.aload_n 0, 1) := by decide +kernel
theorem dX11_clashes_86 : decode cX11_clashes 86 = .ok (.iload 8, 2) := by decide +kernel
theorem dX11_clashes_88 : decode cX11_clashes 88 = .ok (.invokevirtual 703, 3) := by decide +kernel
theorem dX11_clashes_91 : decode cX11_clashes 91 = .ok (.ior, 1) := by decide +kernel
theorem dX11_clashes_92 : decode cX11_clashes 92 = .ok (.istore 7, 2) := by decide +kernel
theorem dX11_clashes_94 : decode cX11_clashes 94 = .ok (.iinc 8 1, 3) := by decide +kernel
theorem dX11_clashes_97 : decode cX11_clashes 97 = .ok (.goto (-61), 3) := by decide +kernel
theorem dX11_clashes_100 : decode cX11_clashes 100 = .ok (.iload 4, 2) := by decide +kernel
theorem dX11_clashes_102 : decode cX11_clashes 102 = .ok (.ifCond .ne 19, 3) := by decide +kernel
theorem dX11_clashes_105 : decode cX11_clashes 105 = .ok (.iload 6, 2) := by decide +kernel
theorem dX11_clashes_107 : decode cX11_clashes 107 = .ok (.iload_n 2, 1) := by decide +kernel
theorem dX11_clashes_108 : decode cX11_clashes 108 = .ok (.iload_n 3, 1) := by decide +kernel
theorem dX11_clashes_109 : decode cX11_clashes 109 = .ok (.ior, 1) := by decide +kernel
theorem dX11_clashes_110 : decode cX11_clashes 110 = .ok (.iand, 1) := by decide +kernel
theorem dX11_clashes_111 : decode cX11_clashes 111 = .ok (.ifCond .ne 10, 3) := by decide +kernel
theorem dX11_clashes_114 : decode cX11_clashes 114 = .ok (.iload 7, 2) := by decide +kernel
theorem dX11_clashes_116 : decode cX11_clashes 116 = .ok (.iload_n 2, 1) := by decide +kernel
theorem dX11_clashes_117 : decode cX11_clashes 117 = .ok (.iand, 1) := by decide +kernel
theorem dX11_clashes_118 : decode cX11_clashes 118 = .ok (.ifCond .eq 7, 3) := by decide +kernel
theorem dX11_clashes_121 : decode cX11_clashes 121 = .ok (.iconst 1, 1) := by decide +kernel
theorem dX11_clashes_122 : decode cX11_clashes 122 = .ok (.goto 4, 3) := by decide +kernel
theorem dX11_clashes_125 : decode cX11_clashes 125 = .ok (.iconst 0, 1) := by decide +kernel
theorem dX11_clashes_126 : decode cX11_clashes 126 = .ok (.istore 4, 2) := by decide +kernel
theorem dX11_clashes_128 : decode cX11_clashes 128 = .ok (.iload_n 2, 1) := by decide +kernel
theorem dX11_clashes_129 : decode cX11_clashes 129 = .ok (.iload 6, 2) := by decide +kernel
theorem dX11_clashes_131 : decode cX11_clashes 131 = .ok (.ior, 1) := by decide +kernel
theorem dX11_clashes_132 : decode cX11_clashes 132 = .ok (.istore_n 2, 1) := by decide +kernel
theorem dX11_clashes_133 : decode cX11_clashes 133 = .ok (.iload_n 3, 1) := by decide +kernel
theorem dX11_clashes_134 : decode cX11_clashes 134 = .ok (.iload 7, 2) := by decide +kernel
theorem dX11_clashes_136 : decode cX11_clashes 136 = .ok (.ior, 1) := by decide +kernel
theorem dX11_clashes_137 : decode cX11_clashes 137 = .ok (.istore_n 3, 1) := by decide +kernel
theorem dX11_clashes_138 : decode cX11_clashes 138 = .ok (.aload_n 0, 1) := by decide +kernel
theorem dX11_clashes_139 : decode cX11_clashes 139 = .ok (.getfield 147, 3) := by decide +kernel
theorem dX11_clashes_142 : decode cX11_clashes 142 = .ok (.iload 5, 2) := by decide +kernel
theorem dX11_clashes_144 : decode cX11_clashes 144 = .ok (.iaload, 1) := by decide +kernel
theorem dX11_clashes_145 : decode cX11_clashes 145 = .ok (.istore 5, 2) := by decide +kernel
theorem dX11_clashes_147 : decode cX11_clashes 147 = .ok (.goto (-132), 3) := by decide +kernel
theorem dX11_clashes_150 : decode cX11_clashes 150 = .ok (.iload 4, 2) := by decide +kernel
theorem dX11_clashes_152 : decode cX11_clashes 152 = .ok (.ireturn, 1) := by decide +kernel
theorem dX11_lookBehind_0 : decode cX11_lookBehind 0 = .ok (.bipush 40, 2) := by decide +kernel
theorem dX11_lookBehind_2 : decode cX11_lookBehind 2 = .ok (.aload_n 0, 1) := by decide +kernel
theorem dX11_lookBehind_3 : decode cX11_lookBehind 3 = .ok (.getfield 450, 3) := by decide +kernel
theorem dX11_lookBehind_6 : decode cX11_lookBehind 6 = .ok (.imul, 1) := by decide +kernel
theorem dX11_lookBehind_7 : decode cX11_lookBehind 7 = .ok (.istore_n 1, 1) := by decide +kernel
theorem dX11_lookBehind_8 : decode cX11_lookBehind 8 = .ok (.iload_n 1, 1) := by decide +kernel
theorem dX11_lookBehind_9 : decode cX11_lookBehind 9 = .ok (.bipush 40, 2) := by decide +kernel
theorem dX11_lookBehind_11 : decode cX11_lookBehind 11 = .ok (.aload_n 0, 1) := by decide +kernel
theorem dX11_lookBehind_12 : decode cX11_lookBehind 12 = .ok (.getfield 450, 3) := by decide +kernel
theorem dX11_lookBehind_15 : decode cX11_lookBehind 15 = .ok (.imul, 1) := by decide +kernel
theorem dX11_lookBehind_16 : decode cX11_lookBehind 16 = .ok (.aload_n 0, 1) := by decide +kernel
theorem dX11_lookBehind_17 : decode cX11_lookBehind 17 = .ok (.getfield 84, 3) := by decide +kernel
theorem dX11_lookBehind_20 : decode cX11_lookBehind 20 = .ok (.aload_n 0, 1) := by decide +kernel
theorem dX11_lookBehind_21 : decode cX11_lookBehind 21 = .ok (.getfield 450, 3) := by decide +kernel
theorem dX11_lookBehind_24 : decode cX11_lookBehind 24 = .ok (.iaload, 1) := by decide +kernel
theorem dX11_lookBehind_25 : decode cX11_lookBehind 25 = .ok (.iadd, 1) := by decide +kernel
theorem dX11_lookBehind_26 : decode cX11_lookBehind 26 = .ok (.if_icmp .ge 93, 3) := by decide +kernel
theorem dX11_lookBehind_29 : decode cX11_lookBehind 29 = .ok (.aload_n 0, 1) := by decide +kernel
theorem dX11_lookBehind_30 : decode cX11_lookBehind 30 = .ok (.getfield 360, 3) := by decide +kernel
theorem dX11_lookBehind_33 : decode cX11_lookBehind 33 = .ok (.ifCond .ne 86, 3) := by decide +kernel
theorem dX11_lookBehind_36 : decode cX11_lookBehind 36 = .ok (.aload_n 0, 1) := by decide +kernel
theorem dX11_lookBehind_37 : decode cX11_lookBehind 37 = .ok (.getfield 96, 3) := by decide +kernel
theorem dX11_lookBehind_40 : decode cX11_lookBehind 40 = .ok (.iload_n 1, 1) := by decide +kernel
theorem dX11_lookBehind_41 : decode cX11_lookBehind 41 = .ok (.iaload, 1) := by decide +kernel
theorem dX11_lookBehind_42 : decode cX11_lookBehind 42 = .ok (.iconst 5, 1) := by decide +kernel
theorem dX11_lookBehind_43 : decode cX11_lookBehind 43 = .ok (.if_icmp .ne 39, 3) := by decide +kernel
theorem dX11_lookBehind_46 : decode cX11_lookBehind 46 = .ok (.aload_n 0, 1) := by decide +kernel
theorem dX11_lookBehind_47 : decode cX11_lookBehind 47 = .ok (.getfield 189, 3) := by decide +kernel
theorem dX11_lookBehind_50 : decode cX11_lookBehind 50 = .ok (.aload_n 0, 1) := by decide +kernel
theorem dX11_lookBehind_51 : decode cX11_lookBehind 51 = .ok (.getfield 168, 3) := by decide +kernel
theorem dX11_lookBehind_54 : decode cX11_lookBehind 54 = .ok (.aload_n 0, 1) := by decide +kernel
theorem dX11_lookBehind_55 : decode cX11_lookBehind 55 = .ok (.getfield 192, 3) := by decide +kernel
theorem dX11_lookBehind_58 : decode cX11_lookBehind 58 = .ok (.iload_n 1, 1) := by decide +kernel
theorem dX11_lookBehind_59 : decode cX11_lookBehind 59 = .ok (.iaload, 1) := by decide +kernel
theorem dX11_lookBehind_60 : decode cX11_lookBehind 60 = .ok (.iaload, 1) := by decide +kernel
theorem dX11_lookBehind_61 : decode cX11_lookBehind 61 = .ok (.iaload, 1) := by decide +kernel
theorem dX11_lookBehind_62 : decode cX11_lookBehind 62 = .ok (.iconst 1, 1) := by decide +kernel
theorem dX11_lookBehind_63 : decode cX11_lookBehind 63 = .ok (.iand, 1) := by decide +kernel
theorem dX11_lookBehind_64 : decode cX11_lookBehind 64 = .ok (.ifCond .eq 18, 3) := by decide +kernel
theorem dX11_lookBehind_67 : decode cX11_lookBehind 67 = .ok (.aload_n 0, 1) := by decide +kernel
theorem dX11_lookBehind_68 : decode cX11_lookBehind 68 = .ok (.bipush 7, 2) := by decide +kernel
theorem dX11_lookBehind_70 : decode cX11_lookBehind 70 = .ok (.aload_n 0, 1) := by decide +kernel
theorem dX11_lookBehind_71 : decode cX11_lookBehind 71 = .ok (.getfield 99, 3) := by decide +kernel
theorem dX11_lookBehind_74 : decode cX11_lookBehind 74 = .ok (.iload_n 1, 1) := by decide +kernel
theorem dX11_lookBehind_75 : decode cX11_lookBehind 75 = .ok (.iaload, 1) := by decide +kernel
theorem dX11_lookBehind_76 : decode cX11_lookBehind 76 = .ok (.invokevirtual 369, 3) := by decide +kernel
theorem dX11_lookBehind_79 : decode cX11_lookBehind 79 = .ok (.goto 34, 3) := by decide +kernel
theorem dX11_lookBehind_82 : decode cX11_lookBehind 82 = .ok (.aload_n 0, 1) := by decide +kernel
theorem dX11_lookBehind_83 : decode cX11_lookBehind 83 = .ok (.getfield 96, 3) := by decide +kernel
theorem dX11_lookBehind_86 : decode cX11_lookBehind 86 = .ok (.iload_n 1, 1) := by decide +kernel
theorem dX11_lookBehind_87 : decode cX11_lookBehind 87 = .ok (.iaload, 1) := by decide +kernel
theorem dX11_lookBehind_88 : decode cX11_lookBehind 88 = .ok (.bipush 16, 2) := by decide +kernel
theorem dX11_lookBehind_90 : decode cX11_lookBehind 90 = .ok (.if_icmp .ne 23, 3) := by decide +kernel
theorem dX11_lookBehind_93 : decode cX11_lookBehind 93 = .ok (.aload_n 0, 1) := by decide +kernel
theorem dX11_lookBehind_94 : decode cX11_lookBehind 94 = .ok (.iload_n 1, 1) := by decide +kernel
theorem dX11_lookBehind_95 : decode cX11_lookBehind 95 = .ok (.invokevirtual 706, 3) := by decide +kernel
theorem dX11_lookBehind_98 : decode cX11_lookBehind 98 = .ok (.ifCond .eq 15, 3) := by decide +kernel
theorem dX11_lookBehind_101 : decode cX11_lookBehind 101 = .ok (.aload_n 0, 1) := by decide +kernel
theorem dX11_lookBehind_102 : decode cX11_lookBehind 102 = .ok (.bipush 8, 2) := by decide +kernel
theorem dX11_lookBehind_104 : decode cX11_lookBehind 104 = .ok (.aload_n 0, 1) := by decide +kernel
theorem dX11_lookBehind_105 : decode cX11_lookBehind 105 = .ok (.getfield 99, 3) := by decide +kernel
theorem dX11_lookBehind_108 : decode cX11_lookBehind 108 = .ok (.iload_n 1, 1) := by decide +kernel
theorem dX11_lookBehind_109 : decode cX11_lookBehind 109 = .ok (.iaload, 1) := by decide +kernel
theorem dX11_lookBehind_110 : decode cX11_lookBehind 110 = .ok (.invokevirtual 369, 3) := by decide +kernel
theorem dX11_lookBehind_113 : decode cX11_lookBehind 113 = .ok (.iinc 1 1, 3) := by decide +kernel
theorem dX11_lookBehind_116 : decode cX11_lookBehind 116 = .ok (.goto (-108), 3) := by decide +kernel
theorem dX11_lookBehind_119 : decode cX11_lookBehind 119 = .ok (.return_, 1) := by decide +kernel
theorem dX11_compile_0 : decode cX11_compile 0 = .ok (.aload_n 0, 1) := by decide +kernel
theorem dX11_compile_1 : decode cX11_compile 1 = .ok (.getfield 709, 3) := by decide +kernel
theorem dX11_compile_4 : decode cX11_compile 4 = .ok (.iconst 4, 1) := by decide +kernel
theorem dX11_compile_5 : decode cX11_compile 5 = .ok (.if_icmp .ne 6, 3) := by decide +kernel
theorem dX11_compile_8 : decode cX11_compile 8 = .ok (.bipush (-3), 2) := by decide +kernel
theorem dX11_compile_10 : decode cX11_compile 10 = .ok (.ireturn, 1) := by decide +kernel
theorem dX11_compile_11 : decode cX11_compile 11 = .ok (.aload_n 0, 1) := by decide +kernel
theorem dX11_compile_12 : decode cX11_compile 12 = .ok (.aload_n 0, 1) := by decide +kernel
theorem dX11_compile_13 : decode cX11_compile 13 = .ok (.getfield 709, 3) := by decide +kernel
theorem dX11_compile_16 : decode cX11_compile 16 = .ok (.putfield 450, 3) := by decide +kernel
theorem dX11_compile_19 : decode cX11_compile 19 = .ok (.aload_n 0, 1) := by decide +kernel
theorem dX11_compile_20 : decode cX11_compile 20 = .ok (.iconst 0, 1) := by decide +kernel
theorem dX11_compile_21 : decode cX11_compile 21 = .ok (.putfield 360, 3) := by decide +kernel
theorem dX11_compile_24 : decode cX11_compile 24 = .ok (.aload_n 0, 1) := by decide +kernel
theorem dX11_compile_25 : decode cX11_compile 25 = .ok (.getfield 23, 3) := by decide +kernel
theorem dX11_compile_28 : decode cX11_compile 28 = .ok (.aload_n 0, 1) := by decide +kernel
theorem dX11_compile_29 : decode cX11_compile 29 = .ok (.getfield 450, 3) := by decide +kernel
theorem dX11_compile_32 : decode cX11_compile 32 = .ok (.iconst 0, 1) := by decide +kernel
theorem dX11_compile_33 : decode cX11_compile 33 = .ok (.iastore, 1) := by decide +kernel
theorem dX11_compile_34 : decode cX11_compile 34 = .ok (.aload_n 0, 1) := by decide +kernel
theorem dX11_compile_35 : decode cX11_compile 35 = .ok (.getfield 26, 3) := by decide +kernel
theorem dX11_compile_38 : decode cX11_compile 38 = .ok (.aload_n 0, 1) := by decide +kernel
theorem dX11_compile_39 : decode cX11_compile 39 = .ok (.getfield 450, 3) := by decide +kernel
theorem dX11_compile_42 : decode cX11_compile 42 = .ok (.iconst 0, 1) := by decide +kernel
theorem dX11_compile_43 : decode cX11_compile 43 = .ok (.iastore, 1) := by decide +kernel
theorem dX11_compile_44 : decode cX11_compile 44 = .ok (.aload_n 0, 1) := by decide +kernel
theorem dX11_compile_45 : decode cX11_compile 45 = .ok (.getfield 29, 3) := by decide +kernel
theorem dX11_compile_48 : decode cX11_compile 48 = .ok (.aload_n 0, 1) := by decide +kernel
theorem dX11_compile_49 : decode cX11_compile 49 = .ok (.getfield 450, 3) := by decide +kernel
theorem dX11_compile_52 : decode cX11_compile 52 = .ok (.iconst 0, 1) := by decide +kernel
theorem dX11_compile_53 : decode cX11_compile 53 = .ok (.iastore, 1) := by decide +kernel
theorem dX11_compile_54 : decode cX11_compile 54 = .ok (.aload_n 0, 1) := by decide +kernel
theorem dX11_compile_55 : decode cX11_compile 55 = .ok (.getfield 54, 3) := by decide +kernel
theorem dX11_compile_58 : decode cX11_compile 58 = .ok (.aload_n 0, 1) := by decide +kernel
theorem dX11_compile_59 : decode cX11_compile 59 = .ok (.getfield 450, 3) := by decide +kernel
theorem dX11_compile_62 : decode cX11_compile 62 = .ok (.iconst 0, 1) := by decide +kernel
theorem dX11_compile_63 : decode cX11_compile 63 = .ok (.iastore, 1) := by decide +kernel
theorem dX11_compile_64 : decode cX11_compile 64 = .ok (.aload_n 0, 1) := by decide +kernel
theorem dX11_compile_65 : decode cX11_compile 65 = .ok (.getfield 66, 3) := by decide +kernel
theorem dX11_compile_68 : decode cX11_compile 68 = .ok (.aload_n 0, 1) := by decide +kernel
theorem dX11_compile_69 : decode cX11_compile 69 = .ok (.getfield 450, 3) := by decide +kernel
theorem dX11_compile_72 : decode cX11_compile 72 = .ok (.iconst 0, 1) := by decide +kernel
theorem dX11_compile_73 : decode cX11_compile 73 = .ok (.iastore, 1) := by decide +kernel
theorem dX11_compile_74 : decode cX11_compile 74 = .ok (.aload_n 0, 1) := by decide +kernel
theorem dX11_compile_75 : decode cX11_compile 75 = .ok (.getfield 84, 3) := by decide +kernel
theorem dX11_compile_78 : decode cX11_compile 78 = .ok (.aload_n 0, 1) := by decide +kernel
theorem dX11_compile_79 : decode cX11_compile 79 = .ok (.getfield 450, 3) := by decide +kernel
theorem dX11_compile_82 : decode cX11_compile 82 = .ok (.iconst 0, 1) := by decide +kernel
theorem dX11_compile_83 : decode cX11_compile 83 = .ok (.iastore, 1) := by decide +kernel
theorem dX11_compile_84 : decode cX11_compile 84 = .ok (.aload_n 0, 1) := by decide +kernel
theorem dX11_compile_85 : decode cX11_compile 85 = .ok (.getfield 87, 3) := by decide +kernel
theorem dX11_compile_88 : decode cX11_compile 88 = .ok (.aload_n 0, 1) := by decide +kernel
theorem dX11_compile_89 : decode cX11_compile 89 = .ok (.getfield 450, 3) := by decide +kernel
theorem dX11_compile_92 : decode cX11_compile 92 = .ok (.iconst 0, 1) := by decide +kernel
theorem dX11_compile_93 : decode cX11_compile 93 = .ok (.iastore, 1) := by decide +kernel
theorem dX11_compile_94 : decode cX11_compile 94 = .ok (.aload_n 0, 1) := by decide +kernel
theorem dX11_compile_95 : decode cX11_compile 95 = .ok (.getfield 90, 3) := by decide +kernel
theorem dX11_compile_98 : decode cX11_compile 98 = .ok (.aload_n 0, 1) := by decide +kernel
theorem dX11_compile_99 : decode cX11_compile 99 = .ok (.getfield 450, 3) := by decide +kernel
theorem dX11_compile_102 : decode cX11_compile 102 = .ok (.iconst 0, 1) := by decide +kernel
theorem dX11_compile_103 : decode cX11_compile 103 = .ok (.iastore, 1) := by decide +kernel
theorem dX11_compile_104 : decode cX11_compile 104 = .ok (.aload_n 0, 1) := by decide +kernel
theorem dX11_compile_105 : decode cX11_compile 105 = .ok (.getfield 93, 3) := by decide +kernel
theorem dX11_compile_108 : decode cX11_compile 108 = .ok (.aload_n 0, 1) := by decide +kernel
theorem dX11_compile_109 : decode cX11_compile 109 = .ok (.getfield 450, 3) := by decide +kernel
theorem dX11_compile_112 : decode cX11_compile 112 = .ok (.iconst 0, 1) := by decide +kernel
theorem dX11_compile_113 : decode cX11_compile 113 = .ok (.iastore, 1) := by decide +kernel
theorem dX11_compile_114 : decode cX11_compile 114 = .ok (.aload_n 0, 1) := by decide +kernel
theorem dX11_compile_115 : decode cX11_compile 115 = .ok (.getfield 159, 3) := by decide +kernel
theorem dX11_compile_118 : decode cX11_compile 118 = .ok (.aload_n 0, 1) := by decide +kernel
theorem dX11_compile_119 : decode cX11_compile 119 = .ok (.getfield 450, 3) := by decide +kernel
theorem dX11_compile_122 : decode cX11_compile 122 = .ok (.iconst 0, 1) := by decide +kernel
theorem dX11_compile_123 : decode cX11_compile 123 = .ok (.iastore, 1) := by decide +kernel
theorem dX11_compile_124 : decode cX11_compile 124 = .ok (.aload_n 0, 1) := by decide +kernel
theorem dX11_compile_125 : decode cX11_compile 125 = .ok (.getfield 288, 3) := by decide +kernel
theorem dX11_compile_128 : decode cX11_compile 128 = .ok (.aload_n 0, 1) := by decide +kernel
theorem dX11_compile_129 : decode cX11_compile 129 = .ok (.getfield 450, 3) := by decide +kernel
theorem dX11_compile_132 : decode cX11_compile 132 = .ok (.iconst 0, 1) := by decide +kernel
theorem dX11_compile_133 : decode cX11_compile 133 = .ok (.iastore, 1) := by decide +kernel
theorem dX11_compile_134 : decode cX11_compile 134 = .ok (.aload_n 0, 1) := by decide +kernel
theorem dX11_compile_135 : decode cX11_compile 135 = .ok (.invokevirtual 712, 3) := by decide +kernel
theorem dX11_compile_138 : decode cX11_compile 138 = .ok (.aload_n 0, 1) := by decide +kernel
theorem dX11_compile_139 : decode cX11_compile 139 = .ok (.iconst 0, 1) := by decide +kernel
theorem dX11_compile_140 : decode cX11_compile 140 = .ok (.putfield 325, 3) := by decide +kernel
theorem dX11_compile_143 : decode cX11_compile 143 = .ok (.aload_n 0, 1) := by decide +kernel
theorem dX11_compile_144 : decode cX11_compile 144 = .ok (.iconst 0, 1) := by decide +kernel
theorem dX11_compile_145 : decode cX11_compile 145 = .ok (.putfield 366, 3) := by decide +kernel
theorem dX11_compile_148 : decode cX11_compile 148 = .ok (.aload_n 0, 1) := by decide +kernel
theorem dX11_compile_149 : decode cX11_compile 149 = .ok (.getfield 13, 3) := by decide +kernel
theorem dX11_compile_152 : decode cX11_compile 152 = .ok (.iconst 0, 1) := by decide +kernel
theorem dX11_compile_153 : decode cX11_compile 153 = .ok (.iaload, 1) := by decide +kernel
theorem dX11_compile_154 : decode cX11_compile 154 = .ok (.iconst 4, 1) := by decide +kernel
theorem dX11_compile_155 : decode cX11_compile 155 = .ok (.if_icmp .ne 14, 3) := by decide +kernel
theorem dX11_compile_158 : decode cX11_compile 158 = .ok (.aload_n 0, 1) := by decide +kernel
theorem dX11_compile_159 : decode cX11_compile 159 = .ok (.iconst 1, 1) := by decide +kernel
theorem dX11_compile_160 : decode cX11_compile 160 = .ok (.aload_n 0, 1) := by decide +kernel
theorem dX11_compile_161 : decode cX11_compile 161 = .ok (.getfield 16, 3) := by decide +kernel
theorem dX11_compile_164 : decode cX11_compile 164 = .ok (.iconst 0, 1) := by decide +kernel
theorem dX11_compile_165 : decode cX11_compile 165 = .ok (.iaload, 1) := by decide +kernel
theorem dX11_compile_166 : decode cX11_compile 166 = .ok (.invokevirtual 369, 3) := by decide +kernel
theorem dX11_compile_169 : decode cX11_compile 169 = .ok (.aload_n 0, 1) := by decide +kernel
theorem dX11_compile_170 : decode cX11_compile 170 = .ok (.invokevirtual 715, 3) := by decide +kernel
theorem dX11_compile_173 : decode cX11_compile 173 = .ok (.aload_n 0, 1) := by decide +kernel
theorem dX11_compile_174 : decode cX11_compile 174 = .ok (.getfield 360, 3) := by decide +kernel
theorem dX11_compile_177 : decode cX11_compile 177 = .ok (.ifCond .ne 10, 3) := by decide +kernel
theorem dX11_compile_180 : decode cX11_compile 180 = .ok (.aload_n 0, 1) := by decide +kernel
theorem dX11_compile_181 : decode cX11_compile 181 = .ok (.invokevirtual 718, 3) := by decide +kernel
theorem dX11_compile_184 : decode cX11_compile 184 = .ok (.goto 4, 3) := by decide +kernel
theorem dX11_compile_187 : decode cX11_compile 187 = .ok (.iconst (-1), 1) := by decide +kernel
theorem dX11_compile_188 : decode cX11_compile 188 = .ok (.istore_n 1, 1) := by decide +kernel
theorem dX11_compile_189 : decode cX11_compile 189 = .ok (.aload_n 0, 1) := by decide +kernel
theorem dX11_compile_190 : decode cX11_compile 190 = .ok (.getfield 360, 3) := by decide +kernel
theorem dX11_compile_193 : decode cX11_compile 193 = .ok (.ifCond .ne 12, 3) := by decide +kernel
theorem dX11_compile_196 : decode cX11_compile 196 = .ok (.aload_n 0, 1) := by decide +kernel
theorem dX11_compile_197 : decode cX11_compile 197 = .ok (.iload_n 1, 1) := by decide +kernel
theorem dX11_compile_198 : decode cX11_compile 198 = .ok (.invokevirtual 721, 3) := by decide +kernel
theorem dX11_compile_201 : decode cX11_compile 201 = .ok (.aload_n 0, 1) := by decide +kernel
theorem dX11_compile_202 : decode cX11_compile 202 = .ok (.invokevirtual 724, 3) := by decide +kernel
theorem dX11_compile_205 : decode cX11_compile 205 = .ok (.aload_n 0, 1) := by decide +kernel
theorem dX11_compile_206 : decode cX11_compile 206 = .ok (.getfield 360, 3) := by decide +kernel
theorem dX11_compile_209 : decode cX11_compile 209 = .ok (.ifCond .le 11, 3) := by decide +kernel
theorem dX11_compile_212 : decode cX11_compile 212 = .ok (.bipush (-10), 2) := by decide +kernel
theorem dX11_compile_214 : decode cX11_compile 214 = .ok (.aload_n 0, 1) := by decide +kernel
theorem dX11_compile_215 : decode cX11_compile 215 = .ok (.getfield 363, 3) := by decide +kernel
theorem dX11_compile_218 : decode cX11_compile 218 = .ok (.isub, 1) := by decide +kernel
theorem dX11_compile_219 : decode cX11_compile 219 = .ok (.ireturn, 1) := by decide +kernel
theorem dX11_compile_220 : decode cX11_compile 220 = .ok (.aload_n 0, 1) := by decide +kernel
theorem dX11_compile_221 : decode cX11_compile 221 = .ok (.dup, 1) := by decide +kernel
theorem dX11_compile_222 : decode cX11_compile 222 = .ok (.getfield 709, 3) := by decide +kernel
theorem dX11_compile_225 : decode cX11_compile 225 = .ok (.iconst 1, 1) := by decide +kernel
theorem dX11_compile_226 : decode cX11_compile 226 = .ok (.iadd, 1) := by decide +kernel
theorem dX11_compile_227 : decode cX11_compile 227 = .ok (.putfield 709, 3) := by decide +kernel
theorem dX11_compile_230 : decode cX11_compile 230 = .ok (.aload_n 0, 1) := by decide +kernel
theorem dX11_compile_231 : decode cX11_compile 231 = .ok (.getfield 709, 3) := by decide +kernel
theorem dX11_compile_234 : decode cX11_compile 234 = .ok (.iconst 1, 1) := by decide +kernel
theorem dX11_compile_235 : decode cX11_compile 235 = .ok (.isub, 1) := by decide +kernel
theorem dX11_compile_236 : decode cX11_compile 236 = .ok (.ireturn, 1) := by decide +kernel
theorem dX11_fault_0 : decode cX11_fault 0 = .ok (.aload_n 0, 1) := by decide +kernel
theorem dX11_fault_1 : decode cX11_fault 1 = .ok (.getfield 360, 3) := by decide +kernel
theorem dX11_fault_4 : decode cX11_fault 4 = .ok (.ireturn, 1) := by decide +kernel
theorem dX11_isModule_0 : decode cX11_isModule 0 = .ok (.iload_n 1, 1) := by decide +kernel
theorem dX11_isModule_1 : decode cX11_isModule 1 = .ok (.i2l, 1) := by decide +kernel
theorem dX11_isModule_2 : decode cX11_isModule 2 = .ok (.lconst 0, 1) := by decide +kernel
theorem dX11_isModule_3 : decode cX11_isModule 3 = .ok (.aload_n 0, 1) := by decide +kernel
theorem dX11_isModule_4 : decode cX11_isModule 4 = .ok (.getfield 709, 3) := by decide +kernel
theorem dX11_isModule_7 : decode cX11_isModule 7 = .ok (.iconst 1, 1) := by decide +kernel
theorem dX11_isModule_8 : decode cX11_isModule 8 = .ok (.isub, 1) := by decide +kernel
theorem dX11_isModule_9 : decode cX11_isModule 9 = .ok (.i2l, 1) := by decide +kernel
theorem dX11_isModule_10 : decode cX11_isModule 10 = .ok (.invokestatic 332, 3) := by decide +kernel
theorem dX11_isModule_13 : decode cX11_isModule 13 = .ok (.ireturn, 1) := by decide +kernel
theorem dX11_module_0 : decode cX11_module 0 = .ok (.aload_n 0, 1) := by decide +kernel
theorem dX11_module_1 : decode cX11_module 1 = .ok (.iload_n 1, 1) := by decide +kernel
theorem dX11_module_2 : decode cX11_module 2 = .ok (.invokevirtual 727, 3) := by decide +kernel
theorem dX11_module_5 : decode cX11_module 5 = .ok (.ifCond .ne 5, 3) := by decide +kernel
theorem dX11_module_8 : decode cX11_module 8 = .ok (.iconst (-1), 1) := by decide +kernel
theorem dX11_module_9 : decode cX11_module 9 = .ok (.ireturn, 1) := by decide +kernel
theorem dX11_module_10 : decode cX11_module 10 = .ok (.iload_n 2, 1) := by decide +kernel
theorem dX11_module_11 : decode cX11_module 11 = .ok (.tableswitch 142 0 7 #[45, 52, 59, 107, 114, 121, 128, 135], 45) := by decide +kernel
theorem dX11_module_56 : decode cX11_module 56 = .ok (.aload_n 0, 1) := by decide +kernel
theorem dX11_module_57 : decode cX11_module 57 = .ok (.getfield 23, 3) := by decide +kernel
theorem dX11_module_60 : decode cX11_module 60 = .ok (.iload_n 1, 1) := by decide +kernel
theorem dX11_module_61 : decode cX11_module 61 = .ok (.iaload, 1) := by decide +kernel
theorem dX11_module_62 : decode cX11_module 62 = .ok (.ireturn, 1) := by decide +kernel
theorem dX11_module_63 : decode cX11_module 63 = .ok (.aload_n 0, 1) := by decide +kernel
theorem dX11_module_64 : decode cX11_module 64 = .ok (.getfield 26, 3) := by decide +kernel
theorem dX11_module_67 : decode cX11_module 67 = .ok (.iload_n 1, 1) := by decide +kernel
theorem dX11_module_68 : decode cX11_module 68 = .ok (.iaload, 1) := by decide +kernel
theorem dX11_module_69 : decode cX11_module 69 = .ok (.ireturn, 1) := by decide +kernel
theorem dX11_module_70 : decode cX11_module 70 = .ok (.iconst 0, 1) := by decide +kernel
theorem dX11_module_71 : decode cX11_module 71 = .ok (.istore_n 3, 1) := by decide +kernel
theorem dX11_module_72 : decode cX11_module 72 = .ok (.iconst 0, 1) := by decide +kernel
theorem dX11_module_73 : decode cX11_module 73 = .ok (.istore 4, 2) := by decide +kernel
theorem dX11_module_75 : decode cX11_module 75 = .ok (.iload 4, 2) := by decide +kernel
theorem dX11_module_77 : decode cX11_module 77 = .ok (.aload_n 0, 1) := by decide +kernel
theorem dX11_module_78 : decode cX11_module 78 = .ok (.getfield 23, 3) := by decide +kernel
theorem dX11_module_81 : decode cX11_module 81 = .ok (.iload_n 1, 1) := by decide +kernel
theorem dX11_module_82 : decode cX11_module 82 = .ok (.iaload, 1) := by decide +kernel
theorem dX11_module_83 : decode cX11_module 83 = .ok (.if_icmp .ge 33, 3) := by decide +kernel
theorem dX11_module_86 : decode cX11_module 86 = .ok (.iload_n 3, 1) := by decide +kernel
theorem dX11_module_87 : decode cX11_module 87 = .ok (.aload_n 0, 1) := by decide +kernel
theorem dX11_module_88 : decode cX11_module 88 = .ok (.getfield 35, 3) := by decide +kernel
theorem dX11_module_91 : decode cX11_module 91 = .ok (.bipush 16, 2) := by decide +kernel
theorem dX11_module_93 : decode cX11_module 93 = .ok (.iload_n 1, 1) := by decide +kernel
theorem dX11_module_94 : decode cX11_module 94 = .ok (.imul, 1) := by decide +kernel
theorem dX11_module_95 : decode cX11_module 95 = .ok (.iload 4, 2) := by decide +kernel
theorem dX11_module_97 : decode cX11_module 97 = .ok (.iadd, 1) := by decide +kernel
theorem dX11_module_98 : decode cX11_module 98 = .ok (.iaload, 1) := by decide +kernel
theorem dX11_module_99 : decode cX11_module 99 = .ok (.iconst 1, 1) := by decide +kernel
theorem dX11_module_100 : decode cX11_module 100 = .ok (.if_icmp .ne 7, 3) := by decide +kernel
theorem dX11_module_103 : decode cX11_module 103 = .ok (.iconst 1, 1) := by decide +kernel
theorem dX11_module_104 : decode cX11_module 104 = .ok (.goto 4, 3) := by decide +kernel
theorem dX11_module_107 : decode cX11_module 107 = .ok (.iconst 0, 1) := by decide +kernel
theorem dX11_module_108 : decode cX11_module 108 = .ok (.iadd, 1) := by decide +kernel
theorem dX11_module_109 : decode cX11_module 109 = .ok (.istore_n 3, 1) := by decide +kernel
theorem dX11_module_110 : decode cX11_module 110 = .ok (.iinc 4 1, 3) := by decide +kernel
theorem dX11_module_113 : decode cX11_module 113 = .ok (.goto (-38), 3) := by decide +kernel
theorem dX11_module_116 : decode cX11_module 116 = .ok (.iload_n 3, 1) := by decide +kernel
theorem dX11_module_117 : decode cX11_module 117 = .ok (.ireturn, 1) := by decide +kernel
theorem dX11_module_118 : decode cX11_module 118 = .ok (.aload_n 0, 1) := by decide +kernel
theorem dX11_module_119 : decode cX11_module 119 = .ok (.getfield 29, 3) := by decide +kernel
theorem dX11_module_122 : decode cX11_module 122 = .ok (.iload_n 1, 1) := by decide +kernel
theorem dX11_module_123 : decode cX11_module 123 = .ok (.iaload, 1) := by decide +kernel
theorem dX11_module_124 : decode cX11_module 124 = .ok (.ireturn, 1) := by decide +kernel
theorem dX11_module_125 : decode cX11_module 125 = .ok (.aload_n 0, 1) := by decide +kernel
theorem dX11_module_126 : decode cX11_module 126 = .ok (.getfield 84, 3) := by decide +kernel
theorem dX11_module_129 : decode cX11_module 129 = .ok (.iload_n 1, 1) := by decide +kernel
theorem dX11_module_130 : decode cX11_module 130 = .ok (.iaload, 1) := by decide +kernel
theorem dX11_module_131 : decode cX11_module 131 = .ok (.ireturn, 1) := by decide +kernel
theorem dX11_module_132 : decode cX11_module 132 = .ok (.aload_n 0, 1) := by decide +kernel
theorem dX11_module_133 : decode cX11_module 133 = .ok (.getfield 87, 3) := by decide +kernel
theorem dX11_module_136 : decode cX11_module 136 = .ok (.iload_n 1, 1) := by decide +kernel
theorem dX11_module_137 : decode cX11_module 137 = .ok (.iaload, 1) := by decide +kernel
theorem dX11_module_138 : decode cX11_module 138 = .ok (.ireturn, 1) := by decide +kernel
theorem dX11_module_139 : decode cX11_module 139 = .ok (.aload_n 0, 1) := by decide +kernel
theorem dX11_module_140 : decode cX11_module 140 = .ok (.getfield 90, 3) := by decide +kernel
theorem dX11_module_143 : decode cX11_module 143 = .ok (.iload_n 1, 1) := by decide +kernel
theorem dX11_module_144 : decode cX11_module 144 = .ok (.iaload, 1) := by decide +kernel
theorem dX11_module_145 : decode cX11_module 145 = .ok (.ireturn, 1) := by decide +kernel
theorem dX11_module_146 : decode cX11_module 146 = .ok (.aload_n 0, 1) := by decide +kernel
theorem dX11_module_147 : decode cX11_module 147 = .ok (.getfield 93, 3) := by decide +kernel
theorem dX11_module_150 : decode cX11_module 150 = .ok (.iload_n 1, 1) := by decide +kernel
theorem dX11_module_151 : decode cX11_module 151 = .ok (.iaload, 1) := by decide +kernel
theorem dX11_module_152 : decode cX11_module 152 = .ok (.ireturn, 1) := by decide +kernel
theorem dX11_module_153 : decode cX11_module 153 = .ok (.iconst (-1), 1) := by decide +kernel
theorem dX11_module_154 : decode cX11_module 154 = .ok (.ireturn, 1) := by decide +kernel
theorem dX11_part_0 : decode cX11_part 0 = .ok (.aload_n 0, 1) := by decide +kernel
theorem dX11_part_1 : decode cX11_part 1 = .ok (.iload_n 1, 1) := by decide +kernel
theorem dX11_part_2 : decode cX11_part 2 = .ok (.invokevirtual 727, 3) := by decide +kernel
theorem dX11_part_5 : decode cX11_part 5 = .ok (.ifCond .eq 35, 3) := by decide +kernel
theorem dX11_part_8 : decode cX11_part 8 = .ok (.iload_n 2, 1) := by decide +kernel
theorem dX11_part_9 : decode cX11_part 9 = .ok (.i2l, 1) := by decide +kernel
theorem dX11_part_10 : decode cX11_part 10 = .ok (.lconst 0, 1) := by decide +kernel
theorem dX11_part_11 : decode cX11_part 11 = .ok (.aload_n 0, 1) := by decide +kernel
theorem dX11_part_12 : decode cX11_part 12 = .ok (.getfield 84, 3) := by decide +kernel
theorem dX11_part_15 : decode cX11_part 15 = .ok (.iload_n 1, 1) := by decide +kernel
theorem dX11_part_16 : decode cX11_part 16 = .ok (.iaload, 1) := by decide +kernel
theorem dX11_part_17 : decode cX11_part 17 = .ok (.iconst 1, 1) := by decide +kernel
theorem dX11_part_18 : decode cX11_part 18 = .ok (.isub, 1) := by decide +kernel
theorem dX11_part_19 : decode cX11_part 19 = .ok (.i2l, 1) := by decide +kernel
theorem dX11_part_20 : decode cX11_part 20 = .ok (.invokestatic 332, 3) := by decide +kernel
theorem dX11_part_23 : decode cX11_part 23 = .ok (.ifCond .eq 17, 3) := by decide +kernel
theorem dX11_part_26 : decode cX11_part 26 = .ok (.aload_n 0, 1) := by decide +kernel
theorem dX11_part_27 : decode cX11_part 27 = .ok (.getfield 99, 3) := by decide +kernel
theorem dX11_part_30 : decode cX11_part 30 = .ok (.bipush 40, 2) := by decide +kernel
theorem dX11_part_32 : decode cX11_part 32 = .ok (.iload_n 1, 1) := by decide +kernel
theorem dX11_part_33 : decode cX11_part 33 = .ok (.imul, 1) := by decide +kernel
theorem dX11_part_34 : decode cX11_part 34 = .ok (.iload_n 2, 1) := by decide +kernel
theorem dX11_part_35 : decode cX11_part 35 = .ok (.iadd, 1) := by decide +kernel
theorem dX11_part_36 : decode cX11_part 36 = .ok (.iaload, 1) := by decide +kernel
theorem dX11_part_37 : decode cX11_part 37 = .ok (.goto 4, 3) := by decide +kernel
theorem dX11_part_40 : decode cX11_part 40 = .ok (.iconst (-1), 1) := by decide +kernel
theorem dX11_part_41 : decode cX11_part 41 = .ok (.ireturn, 1) := by decide +kernel
theorem dX11_both_0 : decode cX11_both 0 = .ok (.iload_n 0, 1) := by decide +kernel
theorem dX11_both_1 : decode cX11_both 1 = .ok (.ifCond .eq 7, 3) := by decide +kernel
theorem dX11_both_4 : decode cX11_both 4 = .ok (.iload_n 1, 1) := by decide +kernel
theorem dX11_both_5 : decode cX11_both 5 = .ok (.ifCond .ne 7, 3) := by decide +kernel
theorem dX11_both_8 : decode cX11_both 8 = .ok (.iconst 0, 1) := by decide +kernel
theorem dX11_both_9 : decode cX11_both 9 = .ok (.goto 18, 3) := by decide +kernel
theorem dX11_both_12 : decode cX11_both 12 = .ok (.iload_n 0, 1) := by decide +kernel
theorem dX11_both_13 : decode cX11_both 13 = .ok (.iconst 1, 1) := by decide +kernel
theorem dX11_both_14 : decode cX11_both 14 = .ok (.if_icmp .ne 12, 3) := by decide +kernel
theorem dX11_both_17 : decode cX11_both 17 = .ok (.iload_n 1, 1) := by decide +kernel
theorem dX11_both_18 : decode cX11_both 18 = .ok (.iconst 1, 1) := by decide +kernel
theorem dX11_both_19 : decode cX11_both 19 = .ok (.if_icmp .ne 7, 3) := by decide +kernel
theorem dX11_both_22 : decode cX11_both 22 = .ok (.iconst 1, 1) := by decide +kernel
theorem dX11_both_23 : decode cX11_both 23 = .ok (.goto 4, 3) := by decide +kernel
theorem dX11_both_26 : decode cX11_both 26 = .ok (.iconst 2, 1) := by decide +kernel
theorem dX11_both_27 : decode cX11_both 27 = .ok (.ireturn, 1) := by decide +kernel
theorem dX11_either_0 : decode cX11_either 0 = .ok (.iload_n 0, 1) := by decide +kernel
theorem dX11_either_1 : decode cX11_either 1 = .ok (.iconst 1, 1) := by decide +kernel
theorem dX11_either_2 : decode cX11_either 2 = .ok (.if_icmp .eq 8, 3) := by decide +kernel
theorem dX11_either_5 : decode cX11_either 5 = .ok (.iload_n 1, 1) := by decide +kernel
theorem dX11_either_6 : decode cX11_either 6 = .ok (.iconst 1, 1) := by decide +kernel
theorem dX11_either_7 : decode cX11_either 7 = .ok (.if_icmp .ne 7, 3) := by decide +kernel
theorem dX11_either_10 : decode cX11_either 10 = .ok (.iconst 1, 1) := by decide +kernel
theorem dX11_either_11 : decode cX11_either 11 = .ok (.goto 16, 3) := by decide +kernel
theorem dX11_either_14 : decode cX11_either 14 = .ok (.iload_n 0, 1) := by decide +kernel
theorem dX11_either_15 : decode cX11_either 15 = .ok (.ifCond .ne 11, 3) := by decide +kernel
theorem dX11_either_18 : decode cX11_either 18 = .ok (.iload_n 1, 1) := by decide +kernel
theorem dX11_either_19 : decode cX11_either 19 = .ok (.ifCond .ne 7, 3) := by decide +kernel
theorem dX11_either_22 : decode cX11_either 22 = .ok (.iconst 0, 1) := by decide +kernel
theorem dX11_either_23 : decode cX11_either 23 = .ok (.goto 4, 3) := by decide +kernel
theorem dX11_either_26 : decode cX11_either 26 = .ok (.iconst 2, 1) := by decide +kernel
theorem dX11_either_27 : decode cX11_either 27 = .ok (.ireturn, 1) := by decide +kernel
theorem dX11_other_0 : decode cX11_other 0 = .ok (.iload_n 0, 1) := by decide +kernel
theorem dX11_other_1 : decode cX11_other 1 = .ok (.iconst 2, 1) := by decide +kernel
theorem dX11_other_2 : decode cX11_other 2 = .ok (.if_icmp .ne 7, 3) := by decide +kernel
theorem dX11_other_5 : decode cX11_other 5 = .ok (.iconst 2, 1) := by decide +kernel
theorem dX11_other_6 : decode cX11_other 6 = .ok (.goto 6, 3) := by decide +kernel
theorem dX11_other_9 : decode cX11_other 9 = .ok (.iconst 1, 1) := by decide +kernel
theorem dX11_other_10 : decode cX11_other 10 = .ok (.iload_n 0, 1) := by decide +kernel
theorem dX11_other_11 : decode cX11_other 11 = .ok (.isub, 1) := by decide +kernel
theorem dX11_other_12 : decode cX11_other 12 = .ok (.ireturn, 1) := by decide +kernel
theorem dX11_condValue_0 : decode cX11_condValue 0 = .ok (.aload_n 0, 1) := by decide +kernel
theorem dX11_condValue_1 : decode cX11_condValue 1 = .ok (.getfield 108, 3) := by decide +kernel
theorem dX11_condValue_4 : decode cX11_condValue 4 = .ok (.iload_n 1, 1) := by decide +kernel
theorem dX11_condValue_5 : decode cX11_condValue 5 = .ok (.iaload, 1) := by decide +kernel
theorem dX11_condValue_6 : decode cX11_condValue 6 = .ok (.istore_n 2, 1) := by decide +kernel
theorem dX11_condValue_7 : decode cX11_condValue 7 = .ok (.iload_n 2, 1) := by decide +kernel
theorem dX11_condValue_8 : decode cX11_condValue 8 = .ok (.aload_n 0, 1) := by decide +kernel
theorem dX11_condValue_9 : decode cX11_condValue 9 = .ok (.getfield 111, 3) := by decide +kernel
theorem dX11_condValue_12 : decode cX11_condValue 12 = .ok (.iload_n 1, 1) := by decide +kernel
theorem dX11_condValue_13 : decode cX11_condValue 13 = .ok (.iaload, 1) := by decide +kernel
theorem dX11_condValue_14 : decode cX11_condValue 14 = .ok (.if_icmp .gt 174, 3) := by decide +kernel
theorem dX11_condValue_17 : decode cX11_condValue 17 = .ok (.aload_n 0, 1) := by decide +kernel
theorem dX11_condValue_18 : decode cX11_condValue 18 = .ok (.getfield 57, 3) := by decide +kernel
theorem dX11_condValue_21 : decode cX11_condValue 21 = .ok (.iload_n 2, 1) := by decide +kernel
theorem dX11_condValue_22 : decode cX11_condValue 22 = .ok (.iaload, 1) := by decide +kernel
theorem dX11_condValue_23 : decode cX11_condValue 23 = .ok (.tableswitch 128 0 3 #[29, 49, 71, 94], 29) := by decide +kernel
theorem dX11_condValue_52 : decode cX11_condValue 52 = .ok (.aload_n 0, 1) := by decide +kernel
theorem dX11_condValue_53 : decode cX11_condValue 53 = .ok (.getfield 225, 3) := by decide +kernel
theorem dX11_condValue_56 : decode cX11_condValue 56 = .ok (.iload_n 2, 1) := by decide +kernel
theorem dX11_condValue_57 : decode cX11_condValue 57 = .ok (.aload_n 0, 1) := by decide +kernel
theorem dX11_condValue_58 : decode cX11_condValue 58 = .ok (.getfield 222, 3) := by decide +kernel
theorem dX11_condValue_61 : decode cX11_condValue 61 = .ok (.aload_n 0, 1) := by decide +kernel
theorem dX11_condValue_62 : decode cX11_condValue 62 = .ok (.getfield 60, 3) := by decide +kernel
theorem dX11_condValue_65 : decode cX11_condValue 65 = .ok (.iload_n 2, 1) := by decide +kernel
theorem dX11_condValue_66 : decode cX11_condValue 66 = .ok (.iaload, 1) := by decide +kernel
theorem dX11_condValue_67 : decode cX11_condValue 67 = .ok (.iaload, 1) := by decide +kernel
theorem dX11_condValue_68 : decode cX11_condValue 68 = .ok (.iastore, 1) := by decide +kernel
theorem dX11_condValue_69 : decode cX11_condValue 69 = .ok (.goto 113, 3) := by decide +kernel
theorem dX11_condValue_72 : decode cX11_condValue 72 = .ok (.aload_n 0, 1) := by decide +kernel
theorem dX11_condValue_73 : decode cX11_condValue 73 = .ok (.getfield 225, 3) := by decide +kernel
theorem dX11_condValue_76 : decode cX11_condValue 76 = .ok (.iload_n 2, 1) := by decide +kernel
theorem dX11_condValue_77 : decode cX11_condValue 77 = .ok (.aload_n 0, 1) := by decide +kernel
theorem dX11_condValue_78 : decode cX11_condValue 78 = .ok (.getfield 730, 3) := by decide +kernel
theorem dX11_condValue_81 : decode cX11_condValue 81 = .ok (.aload_n 0, 1) := by decide +kernel
theorem dX11_condValue_82 : decode cX11_condValue 82 = .ok (.getfield 60, 3) := by decide +kernel
theorem dX11_condValue_85 : decode cX11_condValue 85 = .ok (.iload_n 2, 1) := by decide +kernel
theorem dX11_condValue_86 : decode cX11_condValue 86 = .ok (.iaload, 1) := by decide +kernel
theorem dX11_condValue_87 : decode cX11_condValue 87 = .ok (.ishr, 1) := by decide +kernel
theorem dX11_condValue_88 : decode cX11_condValue 88 = .ok (.iconst 1, 1) := by decide +kernel
theorem dX11_condValue_89 : decode cX11_condValue 89 = .ok (.iand, 1) := by decide +kernel
theorem dX11_condValue_90 : decode cX11_condValue 90 = .ok (.iastore, 1) := by decide +kernel
theorem dX11_condValue_91 : decode cX11_condValue 91 = .ok (.goto 91, 3) := by decide +kernel
theorem dX11_condValue_94 : decode cX11_condValue 94 = .ok (.aload_n 0, 1) := by decide +kernel
theorem dX11_condValue_95 : decode cX11_condValue 95 = .ok (.getfield 225, 3) := by decide +kernel
theorem dX11_condValue_98 : decode cX11_condValue 98 = .ok (.iload_n 2, 1) := by decide +kernel
theorem dX11_condValue_99 : decode cX11_condValue 99 = .ok (.aload_n 0, 1) := by decide +kernel
theorem dX11_condValue_100 : decode cX11_condValue 100 = .ok (.getfield 225, 3) := by decide +kernel
theorem dX11_condValue_103 : decode cX11_condValue 103 = .ok (.aload_n 0, 1) := by decide +kernel
theorem dX11_condValue_104 : decode cX11_condValue 104 = .ok (.getfield 60, 3) := by decide +kernel
theorem dX11_condValue_107 : decode cX11_condValue 107 = .ok (.iload_n 2, 1) := by decide +kernel
theorem dX11_condValue_108 : decode cX11_condValue 108 = .ok (.iaload, 1) := by decide +kernel
theorem dX11_condValue_109 : decode cX11_condValue 109 = .ok (.iaload, 1) := by decide +kernel
theorem dX11_condValue_110 : decode cX11_condValue 110 = .ok (.invokestatic 733, 3) := by decide +kernel
theorem dX11_condValue_113 : decode cX11_condValue 113 = .ok (.iastore, 1) := by decide +kernel
theorem dX11_condValue_114 : decode cX11_condValue 114 = .ok (.goto 68, 3) := by decide +kernel
theorem dX11_condValue_117 : decode cX11_condValue 117 = .ok (.aload_n 0, 1) := by decide +kernel
theorem dX11_condValue_118 : decode cX11_condValue 118 = .ok (.getfield 225, 3) := by decide +kernel
theorem dX11_condValue_121 : decode cX11_condValue 121 = .ok (.iload_n 2, 1) := by decide +kernel
theorem dX11_condValue_122 : decode cX11_condValue 122 = .ok (.aload_n 0, 1) := by decide +kernel
theorem dX11_condValue_123 : decode cX11_condValue 123 = .ok (.getfield 225, 3) := by decide +kernel
theorem dX11_condValue_126 : decode cX11_condValue 126 = .ok (.aload_n 0, 1) := by decide +kernel
theorem dX11_condValue_127 : decode cX11_condValue 127 = .ok (.getfield 60, 3) := by decide +kernel
theorem dX11_condValue_130 : decode cX11_condValue 130 = .ok (.iload_n 2, 1) := by decide +kernel
theorem dX11_condValue_131 : decode cX11_condValue 131 = .ok (.iaload, 1) := by decide +kernel
theorem dX11_condValue_132 : decode cX11_condValue 132 = .ok (.iaload, 1) := by decide +kernel
theorem dX11_condValue_133 : decode cX11_condValue 133 = .ok (.aload_n 0, 1) := by decide +kernel
theorem dX11_condValue_134 : decode cX11_condValue 134 = .ok (.getfield 225, 3) := by decide +kernel
theorem dX11_condValue_137 : decode cX11_condValue 137 = .ok (.aload_n 0, 1) := by decide +kernel
theorem dX11_condValue_138 : decode cX11_condValue 138 = .ok (.getfield 63, 3) := by decide +kernel
theorem dX11_condValue_141 : decode cX11_condValue 141 = .ok (.iload_n 2, 1) := by decide +kernel
theorem dX11_condValue_142 : decode cX11_condValue 142 = .ok (.iaload, 1) := by decide +kernel
theorem dX11_condValue_143 : decode cX11_condValue 143 = .ok (.iaload, 1) := by decide +kernel
theorem dX11_condValue_144 : decode cX11_condValue 144 = .ok (.invokestatic 736, 3) := by decide +kernel
theorem dX11_condValue_147 : decode cX11_condValue 147 = .ok (.iastore, 1) := by decide +kernel
theorem dX11_condValue_148 : decode cX11_condValue 148 = .ok (.goto 34, 3) := by decide +kernel
theorem dX11_condValue_151 : decode cX11_condValue 151 = .ok (.aload_n 0, 1) := by decide +kernel
theorem dX11_condValue_152 : decode cX11_condValue 152 = .ok (.getfield 225, 3) := by decide +kernel
theorem dX11_condValue_155 : decode cX11_condValue 155 = .ok (.iload_n 2, 1) := by decide +kernel
theorem dX11_condValue_156 : decode cX11_condValue 156 = .ok (.aload_n 0, 1) := by decide +kernel
theorem dX11_condValue_157 : decode cX11_condValue 157 = .ok (.getfield 225, 3) := by decide +kernel
theorem dX11_condValue_160 : decode cX11_condValue 160 = .ok (.aload_n 0, 1) := by decide +kernel
theorem dX11_condValue_161 : decode cX11_condValue 161 = .ok (.getfield 60, 3) := by decide +kernel
theorem dX11_condValue_164 : decode cX11_condValue 164 = .ok (.iload_n 2, 1) := by decide +kernel
theorem dX11_condValue_165 : decode cX11_condValue 165 = .ok (.iaload, 1) := by decide +kernel
theorem dX11_condValue_166 : decode cX11_condValue 166 = .ok (.iaload, 1) := by decide +kernel
theorem dX11_condValue_167 : decode cX11_condValue 167 = .ok (.aload_n 0, 1) := by decide +kernel
theorem dX11_condValue_168 : decode cX11_condValue 168 = .ok (.getfield 225, 3) := by decide +kernel
theorem dX11_condValue_171 : decode cX11_condValue 171 = .ok (.aload_n 0, 1) := by decide +kernel
theorem dX11_condValue_172 : decode cX11_condValue 172 = .ok (.getfield 63, 3) := by decide +kernel
theorem dX11_condValue_175 : decode cX11_condValue 175 = .ok (.iload_n 2, 1) := by decide +kernel
theorem dX11_condValue_176 : decode cX11_condValue 176 = .ok (.iaload, 1) := by decide +kernel
theorem dX11_condValue_177 : decode cX11_condValue 177 = .ok (.iaload, 1) := by decide +kernel
theorem dX11_condValue_178 : decode cX11_condValue 178 = .ok (.invokestatic 739, 3) := by decide +kernel
theorem dX11_condValue_181 : decode cX11_condValue 181 = .ok (.iastore, 1) := by decide +kernel
theorem dX11_condValue_182 : decode cX11_condValue 182 = .ok (.iinc 2 1, 3) := by decide +kernel
theorem dX11_condValue_185 : decode cX11_condValue 185 = .ok (.goto (-178), 3) := by decide +kernel
theorem dX11_condValue_188 : decode cX11_condValue 188 = .ok (.aload_n 0, 1) := by decide +kernel
theorem dX11_condValue_189 : decode cX11_condValue 189 = .ok (.getfield 225, 3) := by decide +kernel
theorem dX11_condValue_192 : decode cX11_condValue 192 = .ok (.aload_n 0, 1) := by decide +kernel
theorem dX11_condValue_193 : decode cX11_condValue 193 = .ok (.getfield 111, 3) := by decide +kernel
theorem dX11_condValue_196 : decode cX11_condValue 196 = .ok (.iload_n 1, 1) := by decide +kernel
theorem dX11_condValue_197 : decode cX11_condValue 197 = .ok (.iaload, 1) := by decide +kernel
theorem dX11_condValue_198 : decode cX11_condValue 198 = .ok (.iaload, 1) := by decide +kernel
theorem dX11_condValue_199 : decode cX11_condValue 199 = .ok (.ireturn, 1) := by decide +kernel
theorem dX11_k_0 : decode cX11_k 0 = .ok (.aload_n 0, 1) := by decide +kernel
theorem dX11_k_1 : decode cX11_k 1 = .ok (.getfield 219, 3) := by decide +kernel
theorem dX11_k_4 : decode cX11_k 4 = .ok (.bipush 24, 2) := by decide +kernel
theorem dX11_k_6 : decode cX11_k 6 = .ok (.iload_n 1, 1) := by decide +kernel
theorem dX11_k_7 : decode cX11_k 7 = .ok (.sipush 700, 3) := by decide +kernel
theorem dX11_k_10 : decode cX11_k 10 = .ok (.aload_n 0, 1) := by decide +kernel
theorem dX11_k_11 : decode cX11_k 11 = .ok (.getfield 742, 3) := by decide +kernel
theorem dX11_k_14 : decode cX11_k 14 = .ok (.imul, 1) := by decide +kernel
theorem dX11_k_15 : decode cX11_k 15 = .ok (.isub, 1) := by decide +kernel
theorem dX11_k_16 : decode cX11_k 16 = .ok (.imul, 1) := by decide +kernel
theorem dX11_k_17 : decode cX11_k 17 = .ok (.iload_n 2, 1) := by decide +kernel
theorem dX11_k_18 : decode cX11_k 18 = .ok (.iadd, 1) := by decide +kernel
theorem dX11_k_19 : decode cX11_k 19 = .ok (.iaload, 1) := by decide +kernel
theorem dX11_k_20 : decode cX11_k 20 = .ok (.ireturn, 1) := by decide +kernel
theorem dX11_known_0 : decode cX11_known 0 = .ok (.aload_n 1, 1) := by decide +kernel
theorem dX11_known_1 : decode cX11_known 1 = .ok (.iload_n 2, 1) := by decide +kernel
theorem dX11_known_2 : decode cX11_known 2 = .ok (.iaload, 1) := by decide +kernel
theorem dX11_known_3 : decode cX11_known 3 = .ok (.iload_n 3, 1) := by decide +kernel
theorem dX11_known_4 : decode cX11_known 4 = .ok (.if_icmp .eq 12, 3) := by decide +kernel
theorem dX11_known_7 : decode cX11_known 7 = .ok (.aload_n 1, 1) := by decide +kernel
theorem dX11_known_8 : decode cX11_known 8 = .ok (.iload_n 2, 1) := by decide +kernel
theorem dX11_known_9 : decode cX11_known 9 = .ok (.iload_n 3, 1) := by decide +kernel
theorem dX11_known_10 : decode cX11_known 10 = .ok (.iastore, 1) := by decide +kernel
theorem dX11_known_11 : decode cX11_known 11 = .ok (.aload_n 0, 1) := by decide +kernel
theorem dX11_known_12 : decode cX11_known 12 = .ok (.iconst 1, 1) := by decide +kernel
theorem dX11_known_13 : decode cX11_known 13 = .ok (.putfield 745, 3) := by decide +kernel
theorem dX11_known_16 : decode cX11_known 16 = .ok (.return_, 1) := by decide +kernel
theorem dX11_ifAt_0 : decode cX11_ifAt 0 = .ok (.iconst 0, 1) := by decide +kernel
theorem dX11_ifAt_1 : decode cX11_ifAt 1 = .ok (.istore_n 2, 1) := by decide +kernel
theorem dX11_ifAt_2 : decode cX11_ifAt 2 = .ok (.bipush 40, 2) := by decide +kernel
theorem dX11_ifAt_4 : decode cX11_ifAt 4 = .ok (.aload_n 0, 1) := by decide +kernel
theorem dX11_ifAt_5 : decode cX11_ifAt 5 = .ok (.getfield 742, 3) := by decide +kernel
theorem dX11_ifAt_8 : decode cX11_ifAt 8 = .ok (.imul, 1) := by decide +kernel
theorem dX11_ifAt_9 : decode cX11_ifAt 9 = .ok (.istore_n 3, 1) := by decide +kernel
theorem dX11_ifAt_10 : decode cX11_ifAt 10 = .ok (.iload_n 3, 1) := by decide +kernel
theorem dX11_ifAt_11 : decode cX11_ifAt 11 = .ok (.iload_n 1, 1) := by decide +kernel
theorem dX11_ifAt_12 : decode cX11_ifAt 12 = .ok (.if_icmp .ge 28, 3) := by decide +kernel
theorem dX11_ifAt_15 : decode cX11_ifAt 15 = .ok (.iload_n 2, 1) := by decide +kernel
theorem dX11_ifAt_16 : decode cX11_ifAt 16 = .ok (.aload_n 0, 1) := by decide +kernel
theorem dX11_ifAt_17 : decode cX11_ifAt 17 = .ok (.getfield 96, 3) := by decide +kernel
theorem dX11_ifAt_20 : decode cX11_ifAt 20 = .ok (.iload_n 3, 1) := by decide +kernel
theorem dX11_ifAt_21 : decode cX11_ifAt 21 = .ok (.iaload, 1) := by decide +kernel
theorem dX11_ifAt_22 : decode cX11_ifAt 22 = .ok (.bipush 14, 2) := by decide +kernel
theorem dX11_ifAt_24 : decode cX11_ifAt 24 = .ok (.if_icmp .ne 7, 3) := by decide +kernel
theorem dX11_ifAt_27 : decode cX11_ifAt 27 = .ok (.iconst 1, 1) := by decide +kernel
theorem dX11_ifAt_28 : decode cX11_ifAt 28 = .ok (.goto 4, 3) := by decide +kernel
theorem dX11_ifAt_31 : decode cX11_ifAt 31 = .ok (.iconst 0, 1) := by decide +kernel
theorem dX11_ifAt_32 : decode cX11_ifAt 32 = .ok (.iadd, 1) := by decide +kernel
theorem dX11_ifAt_33 : decode cX11_ifAt 33 = .ok (.istore_n 2, 1) := by decide +kernel
theorem dX11_ifAt_34 : decode cX11_ifAt 34 = .ok (.iinc 3 1, 3) := by decide +kernel
theorem dX11_ifAt_37 : decode cX11_ifAt 37 = .ok (.goto (-27), 3) := by decide +kernel
theorem dX11_ifAt_40 : decode cX11_ifAt 40 = .ok (.aload_n 0, 1) := by decide +kernel
theorem dX11_ifAt_41 : decode cX11_ifAt 41 = .ok (.getfield 749, 3) := by decide +kernel
theorem dX11_ifAt_44 : decode cX11_ifAt 44 = .ok (.iload_n 2, 1) := by decide +kernel
theorem dX11_ifAt_45 : decode cX11_ifAt 45 = .ok (.ishr, 1) := by decide +kernel
theorem dX11_ifAt_46 : decode cX11_ifAt 46 = .ok (.iconst 1, 1) := by decide +kernel
theorem dX11_ifAt_47 : decode cX11_ifAt 47 = .ok (.iand, 1) := by decide +kernel
theorem dX11_ifAt_48 : decode cX11_ifAt 48 = .ok (.ireturn, 1) := by decide +kernel
theorem dX11_enter_0 : decode cX11_enter 0 = .ok (.iload_n 1, 1) := by decide +kernel
theorem dX11_enter_1 : decode cX11_enter 1 = .ok (.sipush 700, 3) := by decide +kernel
theorem dX11_enter_4 : decode cX11_enter 4 = .ok (.aload_n 0, 1) := by decide +kernel
theorem dX11_enter_5 : decode cX11_enter 5 = .ok (.getfield 742, 3) := by decide +kernel
theorem dX11_enter_8 : decode cX11_enter 8 = .ok (.imul, 1) := by decide +kernel
theorem dX11_enter_9 : decode cX11_enter 9 = .ok (.isub, 1) := by decide +kernel
theorem dX11_enter_10 : decode cX11_enter 10 = .ok (.istore_n 2, 1) := by decide +kernel
theorem dX11_enter_11 : decode cX11_enter 11 = .ok (.aload_n 0, 1) := by decide +kernel
theorem dX11_enter_12 : decode cX11_enter 12 = .ok (.getfield 180, 3) := by decide +kernel
theorem dX11_enter_15 : decode cX11_enter 15 = .ok (.iload_n 1, 1) := by decide +kernel
theorem dX11_enter_16 : decode cX11_enter 16 = .ok (.iaload, 1) := by decide +kernel
theorem dX11_enter_17 : decode cX11_enter 17 = .ok (.istore_n 3, 1) := by decide +kernel
theorem dX11_enter_18 : decode cX11_enter 18 = .ok (.aload_n 0, 1) := by decide +kernel
theorem dX11_enter_19 : decode cX11_enter 19 = .ok (.getfield 752, 3) := by decide +kernel
theorem dX11_enter_22 : decode cX11_enter 22 = .ok (.ifCond .eq 7, 3) := by decide +kernel
theorem dX11_enter_25 : decode cX11_enter 25 = .ok (.iconst 1, 1) := by decide +kernel
theorem dX11_enter_26 : decode cX11_enter 26 = .ok (.goto 4, 3) := by decide +kernel
theorem dX11_enter_29 : decode cX11_enter 29 = .ok (.iconst 0, 1) := by decide +kernel
theorem dX11_enter_30 : decode cX11_enter 30 = .ok (.istore 4, 2) := by decide +kernel
theorem dX11_enter_32 : decode cX11_enter 32 = .ok (.aload_n 0, 1) := by decide +kernel
theorem dX11_enter_33 : decode cX11_enter 33 = .ok (.getfield 752, 3) := by decide +kernel
theorem dX11_enter_36 : decode cX11_enter 36 = .ok (.ifCond .eq 7, 3) := by decide +kernel
theorem dX11_enter_39 : decode cX11_enter 39 = .ok (.iconst 0, 1) := by decide +kernel
theorem dX11_enter_40 : decode cX11_enter 40 = .ok (.goto 4, 3) := by decide +kernel
theorem dX11_enter_43 : decode cX11_enter 43 = .ok (.iconst 1, 1) := by decide +kernel
theorem dX11_enter_44 : decode cX11_enter 44 = .ok (.istore 5, 2) := by decide +kernel
theorem dX11_enter_46 : decode cX11_enter 46 = .ok (.iconst 0, 1) := by decide +kernel
theorem dX11_enter_47 : decode cX11_enter 47 = .ok (.istore 6, 2) := by decide +kernel
theorem dX11_enter_49 : decode cX11_enter 49 = .ok (.iconst 0, 1) := by decide +kernel
theorem dX11_enter_50 : decode cX11_enter 50 = .ok (.istore 7, 2) := by decide +kernel
theorem dX11_enter_52 : decode cX11_enter 52 = .ok (.iload_n 3, 1) := by decide +kernel
theorem dX11_enter_53 : decode cX11_enter 53 = .ok (.iconst (-1), 1) := by decide +kernel
theorem dX11_enter_54 : decode cX11_enter 54 = .ok (.if_icmp .eq 289, 3) := by decide +kernel
theorem dX11_enter_57 : decode cX11_enter 57 = .ok (.iload_n 3, 1) := by decide +kernel
theorem dX11_enter_58 : decode cX11_enter 58 = .ok (.sipush 700, 3) := by decide +kernel
theorem dX11_enter_61 : decode cX11_enter 61 = .ok (.aload_n 0, 1) := by decide +kernel
theorem dX11_enter_62 : decode cX11_enter 62 = .ok (.getfield 742, 3) := by decide +kernel
theorem dX11_enter_65 : decode cX11_enter 65 = .ok (.imul, 1) := by decide +kernel
theorem dX11_enter_66 : decode cX11_enter 66 = .ok (.isub, 1) := by decide +kernel
theorem dX11_enter_67 : decode cX11_enter 67 = .ok (.istore 8, 2) := by decide +kernel
theorem dX11_enter_69 : decode cX11_enter 69 = .ok (.aload_n 0, 1) := by decide +kernel
theorem dX11_enter_70 : decode cX11_enter 70 = .ok (.getfield 207, 3) := by decide +kernel
theorem dX11_enter_73 : decode cX11_enter 73 = .ok (.iload 8, 2) := by decide +kernel
theorem dX11_enter_75 : decode cX11_enter 75 = .ok (.iaload, 1) := by decide +kernel
theorem dX11_enter_76 : decode cX11_enter 76 = .ok (.istore 4, 2) := by decide +kernel
theorem dX11_enter_78 : decode cX11_enter 78 = .ok (.aload_n 0, 1) := by decide +kernel
theorem dX11_enter_79 : decode cX11_enter 79 = .ok (.getfield 210, 3) := by decide +kernel
theorem dX11_enter_82 : decode cX11_enter 82 = .ok (.iload 8, 2) := by decide +kernel
theorem dX11_enter_84 : decode cX11_enter 84 = .ok (.iaload, 1) := by decide +kernel
theorem dX11_enter_85 : decode cX11_enter 85 = .ok (.istore 5, 2) := by decide +kernel
theorem dX11_enter_87 : decode cX11_enter 87 = .ok (.aload_n 0, 1) := by decide +kernel
theorem dX11_enter_88 : decode cX11_enter 88 = .ok (.getfield 213, 3) := by decide +kernel
theorem dX11_enter_91 : decode cX11_enter 91 = .ok (.iload 8, 2) := by decide +kernel
theorem dX11_enter_93 : decode cX11_enter 93 = .ok (.iaload, 1) := by decide +kernel
theorem dX11_enter_94 : decode cX11_enter 94 = .ok (.istore 6, 2) := by decide +kernel
theorem dX11_enter_96 : decode cX11_enter 96 = .ok (.aload_n 0, 1) := by decide +kernel
theorem dX11_enter_97 : decode cX11_enter 97 = .ok (.getfield 216, 3) := by decide +kernel
theorem dX11_enter_100 : decode cX11_enter 100 = .ok (.iload 8, 2) := by decide +kernel
theorem dX11_enter_102 : decode cX11_enter 102 = .ok (.iaload, 1) := by decide +kernel
theorem dX11_enter_103 : decode cX11_enter 103 = .ok (.istore 7, 2) := by decide +kernel
theorem dX11_enter_105 : decode cX11_enter 105 = .ok (.aload_n 0, 1) := by decide +kernel
theorem dX11_enter_106 : decode cX11_enter 106 = .ok (.getfield 162, 3) := by decide +kernel
theorem dX11_enter_109 : decode cX11_enter 109 = .ok (.iload_n 3, 1) := by decide +kernel
theorem dX11_enter_110 : decode cX11_enter 110 = .ok (.iaload, 1) := by decide +kernel
theorem dX11_enter_111 : decode cX11_enter 111 = .ok (.tableswitch 232 4 10 #[41, 41, 106, 137, 153, 232, 216], 41) := by decide +kernel
theorem dX11_enter_152 : decode cX11_enter 152 = .ok (.aload_n 0, 1) := by decide +kernel
theorem dX11_enter_153 : decode cX11_enter 153 = .ok (.getfield 162, 3) := by decide +kernel
theorem dX11_enter_156 : decode cX11_enter 156 = .ok (.iload_n 3, 1) := by decide +kernel
theorem dX11_enter_157 : decode cX11_enter 157 = .ok (.iaload, 1) := by decide +kernel
theorem dX11_enter_158 : decode cX11_enter 158 = .ok (.iconst 5, 1) := by decide +kernel
theorem dX11_enter_159 : decode cX11_enter 159 = .ok (.if_icmp .ne 16, 3) := by decide +kernel
theorem dX11_enter_162 : decode cX11_enter 162 = .ok (.aload_n 0, 1) := by decide +kernel
theorem dX11_enter_163 : decode cX11_enter 163 = .ok (.aload_n 0, 1) := by decide +kernel
theorem dX11_enter_164 : decode cX11_enter 164 = .ok (.getfield 165, 3) := by decide +kernel
theorem dX11_enter_167 : decode cX11_enter 167 = .ok (.iload_n 3, 1) := by decide +kernel
theorem dX11_enter_168 : decode cX11_enter 168 = .ok (.iaload, 1) := by decide +kernel
theorem dX11_enter_169 : decode cX11_enter 169 = .ok (.invokevirtual 755, 3) := by decide +kernel
theorem dX11_enter_172 : decode cX11_enter 172 = .ok (.goto 13, 3) := by decide +kernel
theorem dX11_enter_175 : decode cX11_enter 175 = .ok (.aload_n 0, 1) := by decide +kernel
theorem dX11_enter_176 : decode cX11_enter 176 = .ok (.aload_n 0, 1) := by decide +kernel
theorem dX11_enter_177 : decode cX11_enter 177 = .ok (.getfield 165, 3) := by decide +kernel
theorem dX11_enter_180 : decode cX11_enter 180 = .ok (.iload_n 3, 1) := by decide +kernel
theorem dX11_enter_181 : decode cX11_enter 181 = .ok (.iaload, 1) := by decide +kernel
theorem dX11_enter_182 : decode cX11_enter 182 = .ok (.invokevirtual 758, 3) := by decide +kernel
theorem dX11_enter_185 : decode cX11_enter 185 = .ok (.istore 9, 2) := by decide +kernel
theorem dX11_enter_187 : decode cX11_enter 187 = .ok (.iload 4, 2) := by decide +kernel
theorem dX11_enter_189 : decode cX11_enter 189 = .ok (.aload_n 0, 1) := by decide +kernel
theorem dX11_enter_190 : decode cX11_enter 190 = .ok (.getfield 177, 3) := by decide +kernel
theorem dX11_enter_193 : decode cX11_enter 193 = .ok (.iload_n 1, 1) := by decide +kernel
theorem dX11_enter_194 : decode cX11_enter 194 = .ok (.iaload, 1) := by decide +kernel
theorem dX11_enter_195 : decode cX11_enter 195 = .ok (.iconst (-1), 1) := by decide +kernel
theorem dX11_enter_196 : decode cX11_enter 196 = .ok (.if_icmp .ne 8, 3) := by decide +kernel
theorem dX11_enter_199 : decode cX11_enter 199 = .ok (.iload 9, 2) := by decide +kernel
theorem dX11_enter_201 : decode cX11_enter 201 = .ok (.goto 8, 3) := by decide +kernel
theorem dX11_enter_204 : decode cX11_enter 204 = .ok (.iload 9, 2) := by decide +kernel
theorem dX11_enter_206 : decode cX11_enter 206 = .ok (.invokestatic 733, 3) := by decide +kernel
theorem dX11_enter_209 : decode cX11_enter 209 = .ok (.invokestatic 736, 3) := by decide +kernel
theorem dX11_enter_212 : decode cX11_enter 212 = .ok (.istore 4, 2) := by decide +kernel
theorem dX11_enter_214 : decode cX11_enter 214 = .ok (.goto 129, 3) := by decide +kernel
theorem dX11_enter_217 : decode cX11_enter 217 = .ok (.aload_n 0, 1) := by decide +kernel
theorem dX11_enter_218 : decode cX11_enter 218 = .ok (.getfield 177, 3) := by decide +kernel
theorem dX11_enter_221 : decode cX11_enter 221 = .ok (.iload_n 1, 1) := by decide +kernel
theorem dX11_enter_222 : decode cX11_enter 222 = .ok (.iaload, 1) := by decide +kernel
theorem dX11_enter_223 : decode cX11_enter 223 = .ok (.iconst (-1), 1) := by decide +kernel
theorem dX11_enter_224 : decode cX11_enter 224 = .ok (.if_icmp .ne 8, 3) := by decide +kernel
theorem dX11_enter_227 : decode cX11_enter 227 = .ok (.iload 4, 2) := by decide +kernel
theorem dX11_enter_229 : decode cX11_enter 229 = .ok (.goto 14, 3) := by decide +kernel
theorem dX11_enter_232 : decode cX11_enter 232 = .ok (.aload_n 0, 1) := by decide +kernel
theorem dX11_enter_233 : decode cX11_enter 233 = .ok (.aload_n 0, 1) := by decide +kernel
theorem dX11_enter_234 : decode cX11_enter 234 = .ok (.getfield 177, 3) := by decide +kernel
theorem dX11_enter_237 : decode cX11_enter 237 = .ok (.iload_n 1, 1) := by decide +kernel
theorem dX11_enter_238 : decode cX11_enter 238 = .ok (.iaload, 1) := by decide +kernel
theorem dX11_enter_239 : decode cX11_enter 239 = .ok (.iconst 0, 1) := by decide +kernel
theorem dX11_enter_240 : decode cX11_enter 240 = .ok (.invokevirtual 761, 3) := by decide +kernel
theorem dX11_enter_243 : decode cX11_enter 243 = .ok (.istore 4, 2) := by decide +kernel
theorem dX11_enter_245 : decode cX11_enter 245 = .ok (.goto 98, 3) := by decide +kernel
theorem dX11_enter_248 : decode cX11_enter 248 = .ok (.iload 4, 2) := by decide +kernel
theorem dX11_enter_250 : decode cX11_enter 250 = .ok (.aload_n 0, 1) := by decide +kernel
theorem dX11_enter_251 : decode cX11_enter 251 = .ok (.iload_n 1, 1) := by decide +kernel
theorem dX11_enter_252 : decode cX11_enter 252 = .ok (.iconst 0, 1) := by decide +kernel
theorem dX11_enter_253 : decode cX11_enter 253 = .ok (.invokevirtual 761, 3) := by decide +kernel
theorem dX11_enter_256 : decode cX11_enter 256 = .ok (.invokestatic 739, 3) := by decide +kernel
theorem dX11_enter_259 : decode cX11_enter 259 = .ok (.istore 4, 2) := by decide +kernel
theorem dX11_enter_261 : decode cX11_enter 261 = .ok (.goto 82, 3) := by decide +kernel
theorem dX11_enter_264 : decode cX11_enter 264 = .ok (.aload_n 0, 1) := by decide +kernel
theorem dX11_enter_265 : decode cX11_enter 265 = .ok (.aload_n 0, 1) := by decide +kernel
theorem dX11_enter_266 : decode cX11_enter 266 = .ok (.getfield 165, 3) := by decide +kernel
theorem dX11_enter_269 : decode cX11_enter 269 = .ok (.iload_n 3, 1) := by decide +kernel
theorem dX11_enter_270 : decode cX11_enter 270 = .ok (.iaload, 1) := by decide +kernel
theorem dX11_enter_271 : decode cX11_enter 271 = .ok (.invokevirtual 758, 3) := by decide +kernel
theorem dX11_enter_274 : decode cX11_enter 274 = .ok (.istore 9, 2) := by decide +kernel
theorem dX11_enter_276 : decode cX11_enter 276 = .ok (.aload_n 0, 1) := by decide +kernel
theorem dX11_enter_277 : decode cX11_enter 277 = .ok (.getfield 764, 3) := by decide +kernel
theorem dX11_enter_280 : decode cX11_enter 280 = .ok (.aload_n 0, 1) := by decide +kernel
theorem dX11_enter_281 : decode cX11_enter 281 = .ok (.getfield 183, 3) := by decide +kernel
theorem dX11_enter_284 : decode cX11_enter 284 = .ok (.iload_n 3, 1) := by decide +kernel
theorem dX11_enter_285 : decode cX11_enter 285 = .ok (.iaload, 1) := by decide +kernel
theorem dX11_enter_286 : decode cX11_enter 286 = .ok (.iand, 1) := by decide +kernel
theorem dX11_enter_287 : decode cX11_enter 287 = .ok (.ifCond .eq 8, 3) := by decide +kernel
theorem dX11_enter_290 : decode cX11_enter 290 = .ok (.iload 5, 2) := by decide +kernel
theorem dX11_enter_292 : decode cX11_enter 292 = .ok (.goto 4, 3) := by decide +kernel
theorem dX11_enter_295 : decode cX11_enter 295 = .ok (.iconst 0, 1) := by decide +kernel
theorem dX11_enter_296 : decode cX11_enter 296 = .ok (.istore 10, 2) := by decide +kernel
theorem dX11_enter_298 : decode cX11_enter 298 = .ok (.iload 10, 2) := by decide +kernel
theorem dX11_enter_300 : decode cX11_enter 300 = .ok (.iload 9, 2) := by decide +kernel
theorem dX11_enter_302 : decode cX11_enter 302 = .ok (.invokestatic 733, 3) := by decide +kernel
theorem dX11_enter_305 : decode cX11_enter 305 = .ok (.invokestatic 736, 3) := by decide +kernel
theorem dX11_enter_308 : decode cX11_enter 308 = .ok (.istore 5, 2) := by decide +kernel
theorem dX11_enter_310 : decode cX11_enter 310 = .ok (.iload 6, 2) := by decide +kernel
theorem dX11_enter_312 : decode cX11_enter 312 = .ok (.iload 10, 2) := by decide +kernel
theorem dX11_enter_314 : decode cX11_enter 314 = .ok (.iload 9, 2) := by decide +kernel
theorem dX11_enter_316 : decode cX11_enter 316 = .ok (.invokestatic 736, 3) := by decide +kernel
theorem dX11_enter_319 : decode cX11_enter 319 = .ok (.invokestatic 739, 3) := by decide +kernel
theorem dX11_enter_322 : decode cX11_enter 322 = .ok (.istore 6, 2) := by decide +kernel
theorem dX11_enter_324 : decode cX11_enter 324 = .ok (.goto 19, 3) := by decide +kernel
theorem dX11_enter_327 : decode cX11_enter 327 = .ok (.iload 7, 2) := by decide +kernel
theorem dX11_enter_329 : decode cX11_enter 329 = .ok (.aload_n 0, 1) := by decide +kernel
theorem dX11_enter_330 : decode cX11_enter 330 = .ok (.iload_n 1, 1) := by decide +kernel
theorem dX11_enter_331 : decode cX11_enter 331 = .ok (.iconst 2, 1) := by decide +kernel
theorem dX11_enter_332 : decode cX11_enter 332 = .ok (.invokevirtual 761, 3) := by decide +kernel
theorem dX11_enter_335 : decode cX11_enter 335 = .ok (.invokestatic 739, 3) := by decide +kernel
theorem dX11_enter_338 : decode cX11_enter 338 = .ok (.istore 7, 2) := by decide +kernel
theorem dX11_enter_340 : decode cX11_enter 340 = .ok (.goto 3, 3) := by decide +kernel
theorem dX11_enter_343 : decode cX11_enter 343 = .ok (.aload_n 0, 1) := by decide +kernel
theorem dX11_enter_344 : decode cX11_enter 344 = .ok (.aload_n 0, 1) := by decide +kernel
theorem dX11_enter_345 : decode cX11_enter 345 = .ok (.getfield 207, 3) := by decide +kernel
theorem dX11_enter_348 : decode cX11_enter 348 = .ok (.iload_n 2, 1) := by decide +kernel
theorem dX11_enter_349 : decode cX11_enter 349 = .ok (.iload 4, 2) := by decide +kernel
theorem dX11_enter_351 : decode cX11_enter 351 = .ok (.invokevirtual 767, 3) := by decide +kernel
theorem dX11_enter_354 : decode cX11_enter 354 = .ok (.aload_n 0, 1) := by decide +kernel
theorem dX11_enter_355 : decode cX11_enter 355 = .ok (.aload_n 0, 1) := by decide +kernel
theorem dX11_enter_356 : decode cX11_enter 356 = .ok (.getfield 210, 3) := by decide +kernel
theorem dX11_enter_359 : decode cX11_enter 359 = .ok (.iload_n 2, 1) := by decide +kernel
theorem dX11_enter_360 : decode cX11_enter 360 = .ok (.iload 5, 2) := by decide +kernel
theorem dX11_enter_362 : decode cX11_enter 362 = .ok (.invokevirtual 767, 3) := by decide +kernel
theorem dX11_enter_365 : decode cX11_enter 365 = .ok (.aload_n 0, 1) := by decide +kernel
theorem dX11_enter_366 : decode cX11_enter 366 = .ok (.aload_n 0, 1) := by decide +kernel
theorem dX11_enter_367 : decode cX11_enter 367 = .ok (.getfield 213, 3) := by decide +kernel
theorem dX11_enter_370 : decode cX11_enter 370 = .ok (.iload_n 2, 1) := by decide +kernel
theorem dX11_enter_371 : decode cX11_enter 371 = .ok (.iload 6, 2) := by decide +kernel
theorem dX11_enter_373 : decode cX11_enter 373 = .ok (.invokevirtual 767, 3) := by decide +kernel
theorem dX11_enter_376 : decode cX11_enter 376 = .ok (.aload_n 0, 1) := by decide +kernel
theorem dX11_enter_377 : decode cX11_enter 377 = .ok (.aload_n 0, 1) := by decide +kernel
theorem dX11_enter_378 : decode cX11_enter 378 = .ok (.getfield 216, 3) := by decide +kernel
theorem dX11_enter_381 : decode cX11_enter 381 = .ok (.iload_n 2, 1) := by decide +kernel
theorem dX11_enter_382 : decode cX11_enter 382 = .ok (.iload 7, 2) := by decide +kernel
theorem dX11_enter_384 : decode cX11_enter 384 = .ok (.invokevirtual 767, 3) := by decide +kernel
theorem dX11_enter_387 : decode cX11_enter 387 = .ok (.aload_n 0, 1) := by decide +kernel
theorem dX11_enter_388 : decode cX11_enter 388 = .ok (.getfield 162, 3) := by decide +kernel
theorem dX11_enter_391 : decode cX11_enter 391 = .ok (.iload_n 1, 1) := by decide +kernel
theorem dX11_enter_392 : decode cX11_enter 392 = .ok (.iaload, 1) := by decide +kernel
theorem dX11_enter_393 : decode cX11_enter 393 = .ok (.iconst 1, 1) := by decide +kernel
theorem dX11_enter_394 : decode cX11_enter 394 = .ok (.if_icmp .ne 29, 3) := by decide +kernel
theorem dX11_enter_397 : decode cX11_enter 397 = .ok (.iload 4, 2) := by decide +kernel
theorem dX11_enter_399 : decode cX11_enter 399 = .ok (.iconst 1, 1) := by decide +kernel
theorem dX11_enter_400 : decode cX11_enter 400 = .ok (.if_icmp .ne 23, 3) := by decide +kernel
theorem dX11_enter_403 : decode cX11_enter 403 = .ok (.aload_n 0, 1) := by decide +kernel
theorem dX11_enter_404 : decode cX11_enter 404 = .ok (.aload_n 0, 1) := by decide +kernel
theorem dX11_enter_405 : decode cX11_enter 405 = .ok (.getfield 222, 3) := by decide +kernel
theorem dX11_enter_408 : decode cX11_enter 408 = .ok (.aload_n 0, 1) := by decide +kernel
theorem dX11_enter_409 : decode cX11_enter 409 = .ok (.getfield 102, 3) := by decide +kernel
theorem dX11_enter_412 : decode cX11_enter 412 = .ok (.aload_n 0, 1) := by decide +kernel
theorem dX11_enter_413 : decode cX11_enter 413 = .ok (.getfield 165, 3) := by decide +kernel
theorem dX11_enter_416 : decode cX11_enter 416 = .ok (.iload_n 1, 1) := by decide +kernel
theorem dX11_enter_417 : decode cX11_enter 417 = .ok (.iaload, 1) := by decide +kernel
theorem dX11_enter_418 : decode cX11_enter 418 = .ok (.iaload, 1) := by decide +kernel
theorem dX11_enter_419 : decode cX11_enter 419 = .ok (.iconst 1, 1) := by decide +kernel
theorem dX11_enter_420 : decode cX11_enter 420 = .ok (.invokevirtual 767, 3) := by decide +kernel
theorem dX11_enter_423 : decode cX11_enter 423 = .ok (.return_, 1) := by decide +kernel
theorem dX11_orOf_0 : decode cX11_orOf 0 = .ok (.iconst 0, 1) := by decide +kernel
theorem dX11_orOf_1 : decode cX11_orOf 1 = .ok (.istore_n 3, 1) := by decide +kernel
theorem dX11_orOf_2 : decode cX11_orOf 2 = .ok (.aload_n 0, 1) := by decide +kernel
theorem dX11_orOf_3 : decode cX11_orOf 3 = .ok (.getfield 168, 3) := by decide +kernel
theorem dX11_orOf_6 : decode cX11_orOf 6 = .ok (.iload_n 1, 1) := by decide +kernel
theorem dX11_orOf_7 : decode cX11_orOf 7 = .ok (.iaload, 1) := by decide +kernel
theorem dX11_orOf_8 : decode cX11_orOf 8 = .ok (.istore 4, 2) := by decide +kernel
theorem dX11_orOf_10 : decode cX11_orOf 10 = .ok (.iload 4, 2) := by decide +kernel
theorem dX11_orOf_12 : decode cX11_orOf 12 = .ok (.iconst (-1), 1) := by decide +kernel
theorem dX11_orOf_13 : decode cX11_orOf 13 = .ok (.if_icmp .eq 27, 3) := by decide +kernel
theorem dX11_orOf_16 : decode cX11_orOf 16 = .ok (.iload_n 3, 1) := by decide +kernel
theorem dX11_orOf_17 : decode cX11_orOf 17 = .ok (.aload_n 0, 1) := by decide +kernel
theorem dX11_orOf_18 : decode cX11_orOf 18 = .ok (.iload 4, 2) := by decide +kernel
theorem dX11_orOf_20 : decode cX11_orOf 20 = .ok (.iload_n 2, 1) := by decide +kernel
theorem dX11_orOf_21 : decode cX11_orOf 21 = .ok (.invokevirtual 761, 3) := by decide +kernel
theorem dX11_orOf_24 : decode cX11_orOf 24 = .ok (.invokestatic 739, 3) := by decide +kernel
theorem dX11_orOf_27 : decode cX11_orOf 27 = .ok (.istore_n 3, 1) := by decide +kernel
theorem dX11_orOf_28 : decode cX11_orOf 28 = .ok (.aload_n 0, 1) := by decide +kernel
theorem dX11_orOf_29 : decode cX11_orOf 29 = .ok (.getfield 174, 3) := by decide +kernel
theorem dX11_orOf_32 : decode cX11_orOf 32 = .ok (.iload 4, 2) := by decide +kernel
theorem dX11_orOf_34 : decode cX11_orOf 34 = .ok (.iaload, 1) := by decide +kernel
theorem dX11_orOf_35 : decode cX11_orOf 35 = .ok (.istore 4, 2) := by decide +kernel
theorem dX11_orOf_37 : decode cX11_orOf 37 = .ok (.goto (-27), 3) := by decide +kernel
theorem dX11_orOf_40 : decode cX11_orOf 40 = .ok (.iload_n 3, 1) := by decide +kernel
theorem dX11_orOf_41 : decode cX11_orOf 41 = .ok (.ireturn, 1) := by decide +kernel
theorem dX11_allOf_0 : decode cX11_allOf 0 = .ok (.aload_n 0, 1) := by decide +kernel
theorem dX11_allOf_1 : decode cX11_allOf 1 = .ok (.iload_n 1, 1) := by decide +kernel
theorem dX11_allOf_2 : decode cX11_allOf 2 = .ok (.iload_n 2, 1) := by decide +kernel
theorem dX11_allOf_3 : decode cX11_allOf 3 = .ok (.invokevirtual 771, 3) := by decide +kernel
theorem dX11_allOf_6 : decode cX11_allOf 6 = .ok (.istore_n 3, 1) := by decide +kernel
theorem dX11_allOf_7 : decode cX11_allOf 7 = .ok (.aload_n 0, 1) := by decide +kernel
theorem dX11_allOf_8 : decode cX11_allOf 8 = .ok (.getfield 168, 3) := by decide +kernel
theorem dX11_allOf_11 : decode cX11_allOf 11 = .ok (.iload_n 1, 1) := by decide +kernel
theorem dX11_allOf_12 : decode cX11_allOf 12 = .ok (.iaload, 1) := by decide +kernel
theorem dX11_allOf_13 : decode cX11_allOf 13 = .ok (.istore 4, 2) := by decide +kernel
theorem dX11_allOf_15 : decode cX11_allOf 15 = .ok (.iload 4, 2) := by decide +kernel
theorem dX11_allOf_17 : decode cX11_allOf 17 = .ok (.iconst (-1), 1) := by decide +kernel
theorem dX11_allOf_18 : decode cX11_allOf 18 = .ok (.if_icmp .eq 102, 3) := by decide +kernel
theorem dX11_allOf_21 : decode cX11_allOf 21 = .ok (.aload_n 0, 1) := by decide +kernel
theorem dX11_allOf_22 : decode cX11_allOf 22 = .ok (.getfield 764, 3) := by decide +kernel
theorem dX11_allOf_25 : decode cX11_allOf 25 = .ok (.aload_n 0, 1) := by decide +kernel
theorem dX11_allOf_26 : decode cX11_allOf 26 = .ok (.getfield 183, 3) := by decide +kernel
theorem dX11_allOf_29 : decode cX11_allOf 29 = .ok (.iload_n 1, 1) := by decide +kernel
theorem dX11_allOf_30 : decode cX11_allOf 30 = .ok (.iaload, 1) := by decide +kernel
theorem dX11_allOf_31 : decode cX11_allOf 31 = .ok (.iand, 1) := by decide +kernel
theorem dX11_allOf_32 : decode cX11_allOf 32 = .ok (.ifCond .eq 36, 3) := by decide +kernel
theorem dX11_allOf_35 : decode cX11_allOf 35 = .ok (.aload_n 0, 1) := by decide +kernel
theorem dX11_allOf_36 : decode cX11_allOf 36 = .ok (.getfield 764, 3) := by decide +kernel
theorem dX11_allOf_39 : decode cX11_allOf 39 = .ok (.aload_n 0, 1) := by decide +kernel
theorem dX11_allOf_40 : decode cX11_allOf 40 = .ok (.getfield 183, 3) := by decide +kernel
theorem dX11_allOf_43 : decode cX11_allOf 43 = .ok (.iload 4, 2) := by decide +kernel
theorem dX11_allOf_45 : decode cX11_allOf 45 = .ok (.iaload, 1) := by decide +kernel
theorem dX11_allOf_46 : decode cX11_allOf 46 = .ok (.iand, 1) := by decide +kernel
theorem dX11_allOf_47 : decode cX11_allOf 47 = .ok (.ifCond .ne 21, 3) := by decide +kernel
theorem dX11_allOf_50 : decode cX11_allOf 50 = .ok (.aload_n 0, 1) := by decide +kernel
theorem dX11_allOf_51 : decode cX11_allOf 51 = .ok (.getfield 210, 3) := by decide +kernel
theorem dX11_allOf_54 : decode cX11_allOf 54 = .ok (.iload_n 1, 1) := by decide +kernel
theorem dX11_allOf_55 : decode cX11_allOf 55 = .ok (.sipush 700, 3) := by decide +kernel
theorem dX11_allOf_58 : decode cX11_allOf 58 = .ok (.aload_n 0, 1) := by decide +kernel
theorem dX11_allOf_59 : decode cX11_allOf 59 = .ok (.getfield 742, 3) := by decide +kernel
theorem dX11_allOf_62 : decode cX11_allOf 62 = .ok (.imul, 1) := by decide +kernel
theorem dX11_allOf_63 : decode cX11_allOf 63 = .ok (.isub, 1) := by decide +kernel
theorem dX11_allOf_64 : decode cX11_allOf 64 = .ok (.iaload, 1) := by decide +kernel
theorem dX11_allOf_65 : decode cX11_allOf 65 = .ok (.goto 4, 3) := by decide +kernel
theorem dX11_allOf_68 : decode cX11_allOf 68 = .ok (.iconst 0, 1) := by decide +kernel
theorem dX11_allOf_69 : decode cX11_allOf 69 = .ok (.istore 5, 2) := by decide +kernel
theorem dX11_allOf_71 : decode cX11_allOf 71 = .ok (.iconst 0, 1) := by decide +kernel
theorem dX11_allOf_72 : decode cX11_allOf 72 = .ok (.istore 6, 2) := by decide +kernel
theorem dX11_allOf_74 : decode cX11_allOf 74 = .ok (.iload 6, 2) := by decide +kernel
theorem dX11_allOf_76 : decode cX11_allOf 76 = .ok (.iload_n 2, 1) := by decide +kernel
theorem dX11_allOf_77 : decode cX11_allOf 77 = .ok (.if_icmp .gt 24, 3) := by decide +kernel
theorem dX11_allOf_80 : decode cX11_allOf 80 = .ok (.iload 5, 2) := by decide +kernel
theorem dX11_allOf_82 : decode cX11_allOf 82 = .ok (.aload_n 0, 1) := by decide +kernel
theorem dX11_allOf_83 : decode cX11_allOf 83 = .ok (.iload 4, 2) := by decide +kernel
theorem dX11_allOf_85 : decode cX11_allOf 85 = .ok (.iload 6, 2) := by decide +kernel
theorem dX11_allOf_87 : decode cX11_allOf 87 = .ok (.invokevirtual 761, 3) := by decide +kernel
theorem dX11_allOf_90 : decode cX11_allOf 90 = .ok (.invokestatic 739, 3) := by decide +kernel
theorem dX11_allOf_93 : decode cX11_allOf 93 = .ok (.istore 5, 2) := by decide +kernel
theorem dX11_allOf_95 : decode cX11_allOf 95 = .ok (.iinc 6 1, 3) := by decide +kernel
theorem dX11_allOf_98 : decode cX11_allOf 98 = .ok (.goto (-24), 3) := by decide +kernel
theorem dX11_allOf_101 : decode cX11_allOf 101 = .ok (.iload_n 3, 1) := by decide +kernel
theorem dX11_allOf_102 : decode cX11_allOf 102 = .ok (.iload 5, 2) := by decide +kernel
theorem dX11_allOf_104 : decode cX11_allOf 104 = .ok (.invokestatic 736, 3) := by decide +kernel
theorem dX11_allOf_107 : decode cX11_allOf 107 = .ok (.istore_n 3, 1) := by decide +kernel
theorem dX11_allOf_108 : decode cX11_allOf 108 = .ok (.aload_n 0, 1) := by decide +kernel
theorem dX11_allOf_109 : decode cX11_allOf 109 = .ok (.getfield 174, 3) := by decide +kernel
theorem dX11_allOf_112 : decode cX11_allOf 112 = .ok (.iload 4, 2) := by decide +kernel
theorem dX11_allOf_114 : decode cX11_allOf 114 = .ok (.iaload, 1) := by decide +kernel
theorem dX11_allOf_115 : decode cX11_allOf 115 = .ok (.istore 4, 2) := by decide +kernel
theorem dX11_allOf_117 : decode cX11_allOf 117 = .ok (.goto (-102), 3) := by decide +kernel
theorem dX11_allOf_120 : decode cX11_allOf 120 = .ok (.iload_n 3, 1) := by decide +kernel
theorem dX11_allOf_121 : decode cX11_allOf 121 = .ok (.ireturn, 1) := by decide +kernel
theorem dX11_codeValue_0 : decode cX11_codeValue 0 = .ok (.iload_n 1, 1) := by decide +kernel
theorem dX11_codeValue_1 : decode cX11_codeValue 1 = .ok (.sipush 700, 3) := by decide +kernel
theorem dX11_codeValue_4 : decode cX11_codeValue 4 = .ok (.aload_n 0, 1) := by decide +kernel
theorem dX11_codeValue_5 : decode cX11_codeValue 5 = .ok (.getfield 742, 3) := by decide +kernel
theorem dX11_codeValue_8 : decode cX11_codeValue 8 = .ok (.imul, 1) := by decide +kernel
theorem dX11_codeValue_9 : decode cX11_codeValue 9 = .ok (.isub, 1) := by decide +kernel
theorem dX11_codeValue_10 : decode cX11_codeValue 10 = .ok (.istore_n 3, 1) := by decide +kernel
theorem dX11_codeValue_11 : decode cX11_codeValue 11 = .ok (.aload_n 0, 1) := by decide +kernel
theorem dX11_codeValue_12 : decode cX11_codeValue 12 = .ok (.getfield 168, 3) := by decide +kernel
theorem dX11_codeValue_15 : decode cX11_codeValue 15 = .ok (.iload_n 1, 1) := by decide +kernel
theorem dX11_codeValue_16 : decode cX11_codeValue 16 = .ok (.iaload, 1) := by decide +kernel
theorem dX11_codeValue_17 : decode cX11_codeValue 17 = .ok (.istore 4, 2) := by decide +kernel
theorem dX11_codeValue_19 : decode cX11_codeValue 19 = .ok (.aload_n 0, 1) := by decide +kernel
theorem dX11_codeValue_20 : decode cX11_codeValue 20 = .ok (.getfield 162, 3) := by decide +kernel
theorem dX11_codeValue_23 : decode cX11_codeValue 23 = .ok (.iload_n 1, 1) := by decide +kernel
theorem dX11_codeValue_24 : decode cX11_codeValue 24 = .ok (.iaload, 1) := by decide +kernel
theorem dX11_codeValue_25 : decode cX11_codeValue 25 = .ok (.tableswitch 372 2 10 #[51, 94, 115, 115, 193, 218, 234, 297, 304], 51) := by decide +kernel
theorem dX11_codeValue_76 : decode cX11_codeValue 76 = .ok (.iload_n 2, 1) := by decide +kernel
theorem dX11_codeValue_77 : decode cX11_codeValue 77 = .ok (.iconst 1, 1) := by decide +kernel
theorem dX11_codeValue_78 : decode cX11_codeValue 78 = .ok (.if_icmp .ne 12, 3) := by decide +kernel
theorem dX11_codeValue_81 : decode cX11_codeValue 81 = .ok (.aload_n 0, 1) := by decide +kernel
theorem dX11_codeValue_82 : decode cX11_codeValue 82 = .ok (.getfield 207, 3) := by decide +kernel
theorem dX11_codeValue_85 : decode cX11_codeValue 85 = .ok (.iload_n 3, 1) := by decide +kernel
theorem dX11_codeValue_86 : decode cX11_codeValue 86 = .ok (.iaload, 1) := by decide +kernel
theorem dX11_codeValue_87 : decode cX11_codeValue 87 = .ok (.goto 31, 3) := by decide +kernel
theorem dX11_codeValue_90 : decode cX11_codeValue 90 = .ok (.iload_n 2, 1) := by decide +kernel
theorem dX11_codeValue_91 : decode cX11_codeValue 91 = .ok (.ifCond .ne 26, 3) := by decide +kernel
theorem dX11_codeValue_94 : decode cX11_codeValue 94 = .ok (.aload_n 0, 1) := by decide +kernel
theorem dX11_codeValue_95 : decode cX11_codeValue 95 = .ok (.getfield 764, 3) := by decide +kernel
theorem dX11_codeValue_98 : decode cX11_codeValue 98 = .ok (.aload_n 0, 1) := by decide +kernel
theorem dX11_codeValue_99 : decode cX11_codeValue 99 = .ok (.getfield 183, 3) := by decide +kernel
theorem dX11_codeValue_102 : decode cX11_codeValue 102 = .ok (.iload_n 1, 1) := by decide +kernel
theorem dX11_codeValue_103 : decode cX11_codeValue 103 = .ok (.iaload, 1) := by decide +kernel
theorem dX11_codeValue_104 : decode cX11_codeValue 104 = .ok (.iand, 1) := by decide +kernel
theorem dX11_codeValue_105 : decode cX11_codeValue 105 = .ok (.ifCond .eq 12, 3) := by decide +kernel
theorem dX11_codeValue_108 : decode cX11_codeValue 108 = .ok (.aload_n 0, 1) := by decide +kernel
theorem dX11_codeValue_109 : decode cX11_codeValue 109 = .ok (.getfield 210, 3) := by decide +kernel
theorem dX11_codeValue_112 : decode cX11_codeValue 112 = .ok (.iload_n 3, 1) := by decide +kernel
theorem dX11_codeValue_113 : decode cX11_codeValue 113 = .ok (.iaload, 1) := by decide +kernel
theorem dX11_codeValue_114 : decode cX11_codeValue 114 = .ok (.goto 4, 3) := by decide +kernel
theorem dX11_codeValue_117 : decode cX11_codeValue 117 = .ok (.iconst 0, 1) := by decide +kernel
theorem dX11_codeValue_118 : decode cX11_codeValue 118 = .ok (.ireturn, 1) := by decide +kernel
theorem dX11_codeValue_119 : decode cX11_codeValue 119 = .ok (.iload_n 2, 1) := by decide +kernel
theorem dX11_codeValue_120 : decode cX11_codeValue 120 = .ok (.aload_n 0, 1) := by decide +kernel
theorem dX11_codeValue_121 : decode cX11_codeValue 121 = .ok (.getfield 186, 3) := by decide +kernel
theorem dX11_codeValue_124 : decode cX11_codeValue 124 = .ok (.iload_n 1, 1) := by decide +kernel
theorem dX11_codeValue_125 : decode cX11_codeValue 125 = .ok (.iaload, 1) := by decide +kernel
theorem dX11_codeValue_126 : decode cX11_codeValue 126 = .ok (.if_icmp .ne 12, 3) := by decide +kernel
theorem dX11_codeValue_129 : decode cX11_codeValue 129 = .ok (.aload_n 0, 1) := by decide +kernel
theorem dX11_codeValue_130 : decode cX11_codeValue 130 = .ok (.getfield 207, 3) := by decide +kernel
theorem dX11_codeValue_133 : decode cX11_codeValue 133 = .ok (.iload_n 3, 1) := by decide +kernel
theorem dX11_codeValue_134 : decode cX11_codeValue 134 = .ok (.iaload, 1) := by decide +kernel
theorem dX11_codeValue_135 : decode cX11_codeValue 135 = .ok (.goto 4, 3) := by decide +kernel
theorem dX11_codeValue_138 : decode cX11_codeValue 138 = .ok (.iconst 0, 1) := by decide +kernel
theorem dX11_codeValue_139 : decode cX11_codeValue 139 = .ok (.ireturn, 1) := by decide +kernel
theorem dX11_codeValue_140 : decode cX11_codeValue 140 = .ok (.aload_n 0, 1) := by decide +kernel
theorem dX11_codeValue_141 : decode cX11_codeValue 141 = .ok (.iload_n 1, 1) := by decide +kernel
theorem dX11_codeValue_142 : decode cX11_codeValue 142 = .ok (.iload_n 2, 1) := by decide +kernel
theorem dX11_codeValue_143 : decode cX11_codeValue 143 = .ok (.invokevirtual 771, 3) := by decide +kernel
theorem dX11_codeValue_146 : decode cX11_codeValue 146 = .ok (.istore 5, 2) := by decide +kernel
theorem dX11_codeValue_148 : decode cX11_codeValue 148 = .ok (.iload_n 2, 1) := by decide +kernel
theorem dX11_codeValue_149 : decode cX11_codeValue 149 = .ok (.ifCond .ne 66, 3) := by decide +kernel
theorem dX11_codeValue_152 : decode cX11_codeValue 152 = .ok (.aload_n 0, 1) := by decide +kernel
theorem dX11_codeValue_153 : decode cX11_codeValue 153 = .ok (.getfield 174, 3) := by decide +kernel
theorem dX11_codeValue_156 : decode cX11_codeValue 156 = .ok (.iload 4, 2) := by decide +kernel
theorem dX11_codeValue_158 : decode cX11_codeValue 158 = .ok (.iaload, 1) := by decide +kernel
theorem dX11_codeValue_159 : decode cX11_codeValue 159 = .ok (.iconst (-1), 1) := by decide +kernel
theorem dX11_codeValue_160 : decode cX11_codeValue 160 = .ok (.if_icmp .ne 55, 3) := by decide +kernel
theorem dX11_codeValue_163 : decode cX11_codeValue 163 = .ok (.iload 5, 2) := by decide +kernel
theorem dX11_codeValue_165 : decode cX11_codeValue 165 = .ok (.aload_n 0, 1) := by decide +kernel
theorem dX11_codeValue_166 : decode cX11_codeValue 166 = .ok (.getfield 207, 3) := by decide +kernel
theorem dX11_codeValue_169 : decode cX11_codeValue 169 = .ok (.iload_n 3, 1) := by decide +kernel
theorem dX11_codeValue_170 : decode cX11_codeValue 170 = .ok (.iaload, 1) := by decide +kernel
theorem dX11_codeValue_171 : decode cX11_codeValue 171 = .ok (.aload_n 0, 1) := by decide +kernel
theorem dX11_codeValue_172 : decode cX11_codeValue 172 = .ok (.getfield 162, 3) := by decide +kernel
theorem dX11_codeValue_175 : decode cX11_codeValue 175 = .ok (.iload_n 1, 1) := by decide +kernel
theorem dX11_codeValue_176 : decode cX11_codeValue 176 = .ok (.iaload, 1) := by decide +kernel
theorem dX11_codeValue_177 : decode cX11_codeValue 177 = .ok (.iconst 5, 1) := by decide +kernel
theorem dX11_codeValue_178 : decode cX11_codeValue 178 = .ok (.if_icmp .ne 16, 3) := by decide +kernel
theorem dX11_codeValue_181 : decode cX11_codeValue 181 = .ok (.aload_n 0, 1) := by decide +kernel
theorem dX11_codeValue_182 : decode cX11_codeValue 182 = .ok (.aload_n 0, 1) := by decide +kernel
theorem dX11_codeValue_183 : decode cX11_codeValue 183 = .ok (.getfield 165, 3) := by decide +kernel
theorem dX11_codeValue_186 : decode cX11_codeValue 186 = .ok (.iload_n 1, 1) := by decide +kernel
theorem dX11_codeValue_187 : decode cX11_codeValue 187 = .ok (.iaload, 1) := by decide +kernel
theorem dX11_codeValue_188 : decode cX11_codeValue 188 = .ok (.invokevirtual 755, 3) := by decide +kernel
theorem dX11_codeValue_191 : decode cX11_codeValue 191 = .ok (.goto 13, 3) := by decide +kernel
theorem dX11_codeValue_194 : decode cX11_codeValue 194 = .ok (.aload_n 0, 1) := by decide +kernel
theorem dX11_codeValue_195 : decode cX11_codeValue 195 = .ok (.aload_n 0, 1) := by decide +kernel
theorem dX11_codeValue_196 : decode cX11_codeValue 196 = .ok (.getfield 165, 3) := by decide +kernel
theorem dX11_codeValue_199 : decode cX11_codeValue 199 = .ok (.iload_n 1, 1) := by decide +kernel
theorem dX11_codeValue_200 : decode cX11_codeValue 200 = .ok (.iaload, 1) := by decide +kernel
theorem dX11_codeValue_201 : decode cX11_codeValue 201 = .ok (.invokevirtual 758, 3) := by decide +kernel
theorem dX11_codeValue_204 : decode cX11_codeValue 204 = .ok (.invokestatic 733, 3) := by decide +kernel
theorem dX11_codeValue_207 : decode cX11_codeValue 207 = .ok (.invokestatic 736, 3) := by decide +kernel
theorem dX11_codeValue_210 : decode cX11_codeValue 210 = .ok (.invokestatic 739, 3) := by decide +kernel
theorem dX11_codeValue_213 : decode cX11_codeValue 213 = .ok (.istore 5, 2) := by decide +kernel
theorem dX11_codeValue_215 : decode cX11_codeValue 215 = .ok (.iload 5, 2) := by decide +kernel
theorem dX11_codeValue_217 : decode cX11_codeValue 217 = .ok (.ireturn, 1) := by decide +kernel
theorem dX11_codeValue_218 : decode cX11_codeValue 218 = .ok (.iload_n 2, 1) := by decide +kernel
theorem dX11_codeValue_219 : decode cX11_codeValue 219 = .ok (.ifCond .ne 17, 3) := by decide +kernel
theorem dX11_codeValue_222 : decode cX11_codeValue 222 = .ok (.aload_n 0, 1) := by decide +kernel
theorem dX11_codeValue_223 : decode cX11_codeValue 223 = .ok (.aload_n 0, 1) := by decide +kernel
theorem dX11_codeValue_224 : decode cX11_codeValue 224 = .ok (.getfield 171, 3) := by decide +kernel
theorem dX11_codeValue_227 : decode cX11_codeValue 227 = .ok (.iload_n 1, 1) := by decide +kernel
theorem dX11_codeValue_228 : decode cX11_codeValue 228 = .ok (.iaload, 1) := by decide +kernel
theorem dX11_codeValue_229 : decode cX11_codeValue 229 = .ok (.iconst 0, 1) := by decide +kernel
theorem dX11_codeValue_230 : decode cX11_codeValue 230 = .ok (.invokevirtual 761, 3) := by decide +kernel
theorem dX11_codeValue_233 : decode cX11_codeValue 233 = .ok (.goto 9, 3) := by decide +kernel
theorem dX11_codeValue_236 : decode cX11_codeValue 236 = .ok (.aload_n 0, 1) := by decide +kernel
theorem dX11_codeValue_237 : decode cX11_codeValue 237 = .ok (.iload_n 1, 1) := by decide +kernel
theorem dX11_codeValue_238 : decode cX11_codeValue 238 = .ok (.iload_n 2, 1) := by decide +kernel
theorem dX11_codeValue_239 : decode cX11_codeValue 239 = .ok (.invokevirtual 771, 3) := by decide +kernel
theorem dX11_codeValue_242 : decode cX11_codeValue 242 = .ok (.ireturn, 1) := by decide +kernel
theorem dX11_codeValue_243 : decode cX11_codeValue 243 = .ok (.iload_n 2, 1) := by decide +kernel
theorem dX11_codeValue_244 : decode cX11_codeValue 244 = .ok (.ifCond .ne 7, 3) := by decide +kernel
theorem dX11_codeValue_247 : decode cX11_codeValue 247 = .ok (.iconst 0, 1) := by decide +kernel
theorem dX11_codeValue_248 : decode cX11_codeValue 248 = .ok (.goto 10, 3) := by decide +kernel
theorem dX11_codeValue_251 : decode cX11_codeValue 251 = .ok (.aload_n 0, 1) := by decide +kernel
theorem dX11_codeValue_252 : decode cX11_codeValue 252 = .ok (.iload 4, 2) := by decide +kernel
theorem dX11_codeValue_254 : decode cX11_codeValue 254 = .ok (.iload_n 2, 1) := by decide +kernel
theorem dX11_codeValue_255 : decode cX11_codeValue 255 = .ok (.invokevirtual 761, 3) := by decide +kernel
theorem dX11_codeValue_258 : decode cX11_codeValue 258 = .ok (.ireturn, 1) := by decide +kernel
theorem dX11_codeValue_259 : decode cX11_codeValue 259 = .ok (.iload_n 2, 1) := by decide +kernel
theorem dX11_codeValue_260 : decode cX11_codeValue 260 = .ok (.iconst 1, 1) := by decide +kernel
theorem dX11_codeValue_261 : decode cX11_codeValue 261 = .ok (.if_icmp .eq 13, 3) := by decide +kernel
theorem dX11_codeValue_264 : decode cX11_codeValue 264 = .ok (.aload_n 0, 1) := by decide +kernel
theorem dX11_codeValue_265 : decode cX11_codeValue 265 = .ok (.iload 4, 2) := by decide +kernel
theorem dX11_codeValue_267 : decode cX11_codeValue 267 = .ok (.iload_n 2, 1) := by decide +kernel
theorem dX11_codeValue_268 : decode cX11_codeValue 268 = .ok (.invokevirtual 761, 3) := by decide +kernel
theorem dX11_codeValue_271 : decode cX11_codeValue 271 = .ok (.goto 50, 3) := by decide +kernel
theorem dX11_codeValue_274 : decode cX11_codeValue 274 = .ok (.aload_n 0, 1) := by decide +kernel
theorem dX11_codeValue_275 : decode cX11_codeValue 275 = .ok (.iload 4, 2) := by decide +kernel
theorem dX11_codeValue_277 : decode cX11_codeValue 277 = .ok (.iconst 1, 1) := by decide +kernel
theorem dX11_codeValue_278 : decode cX11_codeValue 278 = .ok (.invokevirtual 761, 3) := by decide +kernel
theorem dX11_codeValue_281 : decode cX11_codeValue 281 = .ok (.aload_n 0, 1) := by decide +kernel
theorem dX11_codeValue_282 : decode cX11_codeValue 282 = .ok (.getfield 764, 3) := by decide +kernel
theorem dX11_codeValue_285 : decode cX11_codeValue 285 = .ok (.aload_n 0, 1) := by decide +kernel
theorem dX11_codeValue_286 : decode cX11_codeValue 286 = .ok (.getfield 183, 3) := by decide +kernel
theorem dX11_codeValue_289 : decode cX11_codeValue 289 = .ok (.iload_n 1, 1) := by decide +kernel
theorem dX11_codeValue_290 : decode cX11_codeValue 290 = .ok (.iaload, 1) := by decide +kernel
theorem dX11_codeValue_291 : decode cX11_codeValue 291 = .ok (.iand, 1) := by decide +kernel
theorem dX11_codeValue_292 : decode cX11_codeValue 292 = .ok (.ifCond .eq 12, 3) := by decide +kernel
theorem dX11_codeValue_295 : decode cX11_codeValue 295 = .ok (.aload_n 0, 1) := by decide +kernel
theorem dX11_codeValue_296 : decode cX11_codeValue 296 = .ok (.getfield 210, 3) := by decide +kernel
theorem dX11_codeValue_299 : decode cX11_codeValue 299 = .ok (.iload_n 3, 1) := by decide +kernel
theorem dX11_codeValue_300 : decode cX11_codeValue 300 = .ok (.iaload, 1) := by decide +kernel
theorem dX11_codeValue_301 : decode cX11_codeValue 301 = .ok (.goto 4, 3) := by decide +kernel
theorem dX11_codeValue_304 : decode cX11_codeValue 304 = .ok (.iconst 0, 1) := by decide +kernel
theorem dX11_codeValue_305 : decode cX11_codeValue 305 = .ok (.aload_n 0, 1) := by decide +kernel
theorem dX11_codeValue_306 : decode cX11_codeValue 306 = .ok (.aload_n 0, 1) := by decide +kernel
theorem dX11_codeValue_307 : decode cX11_codeValue 307 = .ok (.getfield 165, 3) := by decide +kernel
theorem dX11_codeValue_310 : decode cX11_codeValue 310 = .ok (.iload_n 1, 1) := by decide +kernel
theorem dX11_codeValue_311 : decode cX11_codeValue 311 = .ok (.iaload, 1) := by decide +kernel
theorem dX11_codeValue_312 : decode cX11_codeValue 312 = .ok (.invokevirtual 758, 3) := by decide +kernel
theorem dX11_codeValue_315 : decode cX11_codeValue 315 = .ok (.invokestatic 736, 3) := by decide +kernel
theorem dX11_codeValue_318 : decode cX11_codeValue 318 = .ok (.invokestatic 739, 3) := by decide +kernel
theorem dX11_codeValue_321 : decode cX11_codeValue 321 = .ok (.ireturn, 1) := by decide +kernel
theorem dX11_codeValue_322 : decode cX11_codeValue 322 = .ok (.aload_n 0, 1) := by decide +kernel
theorem dX11_codeValue_323 : decode cX11_codeValue 323 = .ok (.iload_n 1, 1) := by decide +kernel
theorem dX11_codeValue_324 : decode cX11_codeValue 324 = .ok (.iload_n 2, 1) := by decide +kernel
theorem dX11_codeValue_325 : decode cX11_codeValue 325 = .ok (.invokevirtual 774, 3) := by decide +kernel
theorem dX11_codeValue_328 : decode cX11_codeValue 328 = .ok (.ireturn, 1) := by decide +kernel
theorem dX11_codeValue_329 : decode cX11_codeValue 329 = .ok (.iload_n 2, 1) := by decide +kernel
theorem dX11_codeValue_330 : decode cX11_codeValue 330 = .ok (.ifCond .ne 23, 3) := by decide +kernel
theorem dX11_codeValue_333 : decode cX11_codeValue 333 = .ok (.aload_n 0, 1) := by decide +kernel
theorem dX11_codeValue_334 : decode cX11_codeValue 334 = .ok (.iload 4, 2) := by decide +kernel
theorem dX11_codeValue_336 : decode cX11_codeValue 336 = .ok (.iconst 0, 1) := by decide +kernel
theorem dX11_codeValue_337 : decode cX11_codeValue 337 = .ok (.invokevirtual 761, 3) := by decide +kernel
theorem dX11_codeValue_340 : decode cX11_codeValue 340 = .ok (.aload_n 0, 1) := by decide +kernel
theorem dX11_codeValue_341 : decode cX11_codeValue 341 = .ok (.iload 4, 2) := by decide +kernel
theorem dX11_codeValue_343 : decode cX11_codeValue 343 = .ok (.iconst 2, 1) := by decide +kernel
theorem dX11_codeValue_344 : decode cX11_codeValue 344 = .ok (.invokevirtual 761, 3) := by decide +kernel
theorem dX11_codeValue_347 : decode cX11_codeValue 347 = .ok (.invokestatic 739, 3) := by decide +kernel
theorem dX11_codeValue_350 : decode cX11_codeValue 350 = .ok (.goto 46, 3) := by decide +kernel
theorem dX11_codeValue_353 : decode cX11_codeValue 353 = .ok (.iload_n 2, 1) := by decide +kernel
theorem dX11_codeValue_354 : decode cX11_codeValue 354 = .ok (.iconst 1, 1) := by decide +kernel
theorem dX11_codeValue_355 : decode cX11_codeValue 355 = .ok (.if_icmp .ne 13, 3) := by decide +kernel
theorem dX11_codeValue_358 : decode cX11_codeValue 358 = .ok (.aload_n 0, 1) := by decide +kernel
theorem dX11_codeValue_359 : decode cX11_codeValue 359 = .ok (.iload 4, 2) := by decide +kernel
theorem dX11_codeValue_361 : decode cX11_codeValue 361 = .ok (.iconst 1, 1) := by decide +kernel
theorem dX11_codeValue_362 : decode cX11_codeValue 362 = .ok (.invokevirtual 761, 3) := by decide +kernel
theorem dX11_codeValue_365 : decode cX11_codeValue 365 = .ok (.goto 31, 3) := by decide +kernel
theorem dX11_codeValue_368 : decode cX11_codeValue 368 = .ok (.iload_n 2, 1) := by decide +kernel
theorem dX11_codeValue_369 : decode cX11_codeValue 369 = .ok (.iconst 1, 1) := by decide +kernel
theorem dX11_codeValue_370 : decode cX11_codeValue 370 = .ok (.iadd, 1) := by decide +kernel
theorem dX11_codeValue_371 : decode cX11_codeValue 371 = .ok (.aload_n 0, 1) := by decide +kernel
theorem dX11_codeValue_372 : decode cX11_codeValue 372 = .ok (.getfield 198, 3) := by decide +kernel
theorem dX11_codeValue_375 : decode cX11_codeValue 375 = .ok (.aload_n 0, 1) := by decide +kernel
theorem dX11_codeValue_376 : decode cX11_codeValue 376 = .ok (.getfield 742, 3) := by decide +kernel
theorem dX11_codeValue_379 : decode cX11_codeValue 379 = .ok (.iaload, 1) := by decide +kernel
theorem dX11_codeValue_380 : decode cX11_codeValue 380 = .ok (.if_icmp .ge 15, 3) := by decide +kernel
theorem dX11_codeValue_383 : decode cX11_codeValue 383 = .ok (.aload_n 0, 1) := by decide +kernel
theorem dX11_codeValue_384 : decode cX11_codeValue 384 = .ok (.iload 4, 2) := by decide +kernel
theorem dX11_codeValue_386 : decode cX11_codeValue 386 = .ok (.iload_n 2, 1) := by decide +kernel
theorem dX11_codeValue_387 : decode cX11_codeValue 387 = .ok (.iconst 1, 1) := by decide +kernel
theorem dX11_codeValue_388 : decode cX11_codeValue 388 = .ok (.iadd, 1) := by decide +kernel
theorem dX11_codeValue_389 : decode cX11_codeValue 389 = .ok (.invokevirtual 761, 3) := by decide +kernel
theorem dX11_codeValue_392 : decode cX11_codeValue 392 = .ok (.goto 4, 3) := by decide +kernel
theorem dX11_codeValue_395 : decode cX11_codeValue 395 = .ok (.iconst 0, 1) := by decide +kernel
theorem dX11_codeValue_396 : decode cX11_codeValue 396 = .ok (.ireturn, 1) := by decide +kernel
theorem dX11_codeValue_397 : decode cX11_codeValue 397 = .ok (.iload_n 2, 1) := by decide +kernel
theorem dX11_codeValue_398 : decode cX11_codeValue 398 = .ok (.ifCond .ne 12, 3) := by decide +kernel
theorem dX11_codeValue_401 : decode cX11_codeValue 401 = .ok (.aload_n 0, 1) := by decide +kernel
theorem dX11_codeValue_402 : decode cX11_codeValue 402 = .ok (.getfield 207, 3) := by decide +kernel
theorem dX11_codeValue_405 : decode cX11_codeValue 405 = .ok (.iload_n 3, 1) := by decide +kernel
theorem dX11_codeValue_406 : decode cX11_codeValue 406 = .ok (.iaload, 1) := by decide +kernel
theorem dX11_codeValue_407 : decode cX11_codeValue 407 = .ok (.goto 4, 3) := by decide +kernel
theorem dX11_codeValue_410 : decode cX11_codeValue 410 = .ok (.iconst 0, 1) := by decide +kernel
theorem dX11_codeValue_411 : decode cX11_codeValue 411 = .ok (.ireturn, 1) := by decide +kernel
theorem dX11_signalsNow_0 : decode cX11_signalsNow 0 = .ok (.iconst 0, 1) := by decide +kernel
theorem dX11_signalsNow_1 : decode cX11_signalsNow 1 = .ok (.istore_n 1, 1) := by decide +kernel
theorem dX11_signalsNow_2 : decode cX11_signalsNow 2 = .ok (.iload_n 1, 1) := by decide +kernel
theorem dX11_signalsNow_3 : decode cX11_signalsNow 3 = .ok (.aload_n 0, 1) := by decide +kernel
theorem dX11_signalsNow_4 : decode cX11_signalsNow 4 = .ok (.getfield 23, 3) := by decide +kernel
theorem dX11_signalsNow_7 : decode cX11_signalsNow 7 = .ok (.aload_n 0, 1) := by decide +kernel
theorem dX11_signalsNow_8 : decode cX11_signalsNow 8 = .ok (.getfield 742, 3) := by decide +kernel
theorem dX11_signalsNow_11 : decode cX11_signalsNow 11 = .ok (.iaload, 1) := by decide +kernel
theorem dX11_signalsNow_12 : decode cX11_signalsNow 12 = .ok (.if_icmp .ge 120, 3) := by decide +kernel
theorem dX11_signalsNow_15 : decode cX11_signalsNow 15 = .ok (.aload_n 0, 1) := by decide +kernel
theorem dX11_signalsNow_16 : decode cX11_signalsNow 16 = .ok (.getfield 35, 3) := by decide +kernel
theorem dX11_signalsNow_19 : decode cX11_signalsNow 19 = .ok (.bipush 16, 2) := by decide +kernel
theorem dX11_signalsNow_21 : decode cX11_signalsNow 21 = .ok (.aload_n 0, 1) := by decide +kernel
theorem dX11_signalsNow_22 : decode cX11_signalsNow 22 = .ok (.getfield 742, 3) := by decide +kernel
theorem dX11_signalsNow_25 : decode cX11_signalsNow 25 = .ok (.imul, 1) := by decide +kernel
theorem dX11_signalsNow_26 : decode cX11_signalsNow 26 = .ok (.iload_n 1, 1) := by decide +kernel
theorem dX11_signalsNow_27 : decode cX11_signalsNow 27 = .ok (.iadd, 1) := by decide +kernel
theorem dX11_signalsNow_28 : decode cX11_signalsNow 28 = .ok (.iaload, 1) := by decide +kernel
theorem dX11_signalsNow_29 : decode cX11_signalsNow 29 = .ok (.ifCond .le 97, 3) := by decide +kernel
theorem dX11_signalsNow_32 : decode cX11_signalsNow 32 = .ok (.iconst 0, 1) := by decide +kernel
theorem dX11_signalsNow_33 : decode cX11_signalsNow 33 = .ok (.istore_n 2, 1) := by decide +kernel
theorem dX11_signalsNow_34 : decode cX11_signalsNow 34 = .ok (.sipush 700, 3) := by decide +kernel
theorem dX11_signalsNow_37 : decode cX11_signalsNow 37 = .ok (.aload_n 0, 1) := by decide +kernel
theorem dX11_signalsNow_38 : decode cX11_signalsNow 38 = .ok (.getfield 742, 3) := by decide +kernel
theorem dX11_signalsNow_41 : decode cX11_signalsNow 41 = .ok (.imul, 1) := by decide +kernel
theorem dX11_signalsNow_42 : decode cX11_signalsNow 42 = .ok (.istore_n 3, 1) := by decide +kernel
theorem dX11_signalsNow_43 : decode cX11_signalsNow 43 = .ok (.iload_n 3, 1) := by decide +kernel
theorem dX11_signalsNow_44 : decode cX11_signalsNow 44 = .ok (.sipush 700, 3) := by decide +kernel
theorem dX11_signalsNow_47 : decode cX11_signalsNow 47 = .ok (.aload_n 0, 1) := by decide +kernel
theorem dX11_signalsNow_48 : decode cX11_signalsNow 48 = .ok (.getfield 742, 3) := by decide +kernel
theorem dX11_signalsNow_51 : decode cX11_signalsNow 51 = .ok (.imul, 1) := by decide +kernel
theorem dX11_signalsNow_52 : decode cX11_signalsNow 52 = .ok (.aload_n 0, 1) := by decide +kernel
theorem dX11_signalsNow_53 : decode cX11_signalsNow 53 = .ok (.getfield 159, 3) := by decide +kernel
theorem dX11_signalsNow_56 : decode cX11_signalsNow 56 = .ok (.aload_n 0, 1) := by decide +kernel
theorem dX11_signalsNow_57 : decode cX11_signalsNow 57 = .ok (.getfield 742, 3) := by decide +kernel
theorem dX11_signalsNow_60 : decode cX11_signalsNow 60 = .ok (.iaload, 1) := by decide +kernel
theorem dX11_signalsNow_61 : decode cX11_signalsNow 61 = .ok (.iadd, 1) := by decide +kernel
theorem dX11_signalsNow_62 : decode cX11_signalsNow 62 = .ok (.if_icmp .ge 54, 3) := by decide +kernel
theorem dX11_signalsNow_65 : decode cX11_signalsNow 65 = .ok (.aload_n 0, 1) := by decide +kernel
theorem dX11_signalsNow_66 : decode cX11_signalsNow 66 = .ok (.getfield 162, 3) := by decide +kernel
theorem dX11_signalsNow_69 : decode cX11_signalsNow 69 = .ok (.iload_n 3, 1) := by decide +kernel
theorem dX11_signalsNow_70 : decode cX11_signalsNow 70 = .ok (.iaload, 1) := by decide +kernel
theorem dX11_signalsNow_71 : decode cX11_signalsNow 71 = .ok (.iconst 1, 1) := by decide +kernel
theorem dX11_signalsNow_72 : decode cX11_signalsNow 72 = .ok (.if_icmp .ne 38, 3) := by decide +kernel
theorem dX11_signalsNow_75 : decode cX11_signalsNow 75 = .ok (.aload_n 0, 1) := by decide +kernel
theorem dX11_signalsNow_76 : decode cX11_signalsNow 76 = .ok (.getfield 102, 3) := by decide +kernel
theorem dX11_signalsNow_79 : decode cX11_signalsNow 79 = .ok (.aload_n 0, 1) := by decide +kernel
theorem dX11_signalsNow_80 : decode cX11_signalsNow 80 = .ok (.getfield 165, 3) := by decide +kernel
theorem dX11_signalsNow_83 : decode cX11_signalsNow 83 = .ok (.iload_n 3, 1) := by decide +kernel
theorem dX11_signalsNow_84 : decode cX11_signalsNow 84 = .ok (.iaload, 1) := by decide +kernel
theorem dX11_signalsNow_85 : decode cX11_signalsNow 85 = .ok (.iaload, 1) := by decide +kernel
theorem dX11_signalsNow_86 : decode cX11_signalsNow 86 = .ok (.iload_n 1, 1) := by decide +kernel
theorem dX11_signalsNow_87 : decode cX11_signalsNow 87 = .ok (.if_icmp .ne 23, 3) := by decide +kernel
theorem dX11_signalsNow_90 : decode cX11_signalsNow 90 = .ok (.iload_n 2, 1) := by decide +kernel
theorem dX11_signalsNow_91 : decode cX11_signalsNow 91 = .ok (.aload_n 0, 1) := by decide +kernel
theorem dX11_signalsNow_92 : decode cX11_signalsNow 92 = .ok (.getfield 207, 3) := by decide +kernel
theorem dX11_signalsNow_95 : decode cX11_signalsNow 95 = .ok (.iload_n 3, 1) := by decide +kernel
theorem dX11_signalsNow_96 : decode cX11_signalsNow 96 = .ok (.sipush 700, 3) := by decide +kernel
theorem dX11_signalsNow_99 : decode cX11_signalsNow 99 = .ok (.aload_n 0, 1) := by decide +kernel
theorem dX11_signalsNow_100 : decode cX11_signalsNow 100 = .ok (.getfield 742, 3) := by decide +kernel
theorem dX11_signalsNow_103 : decode cX11_signalsNow 103 = .ok (.imul, 1) := by decide +kernel
theorem dX11_signalsNow_104 : decode cX11_signalsNow 104 = .ok (.isub, 1) := by decide +kernel
theorem dX11_signalsNow_105 : decode cX11_signalsNow 105 = .ok (.iaload, 1) := by decide +kernel
theorem dX11_signalsNow_106 : decode cX11_signalsNow 106 = .ok (.invokestatic 739, 3) := by decide +kernel
theorem dX11_signalsNow_109 : decode cX11_signalsNow 109 = .ok (.istore_n 2, 1) := by decide +kernel
theorem dX11_signalsNow_110 : decode cX11_signalsNow 110 = .ok (.iinc 3 1, 3) := by decide +kernel
theorem dX11_signalsNow_113 : decode cX11_signalsNow 113 = .ok (.goto (-70), 3) := by decide +kernel
theorem dX11_signalsNow_116 : decode cX11_signalsNow 116 = .ok (.aload_n 0, 1) := by decide +kernel
theorem dX11_signalsNow_117 : decode cX11_signalsNow 117 = .ok (.aload_n 0, 1) := by decide +kernel
theorem dX11_signalsNow_118 : decode cX11_signalsNow 118 = .ok (.getfield 222, 3) := by decide +kernel
theorem dX11_signalsNow_121 : decode cX11_signalsNow 121 = .ok (.iload_n 1, 1) := by decide +kernel
theorem dX11_signalsNow_122 : decode cX11_signalsNow 122 = .ok (.iload_n 2, 1) := by decide +kernel
theorem dX11_signalsNow_123 : decode cX11_signalsNow 123 = .ok (.invokevirtual 767, 3) := by decide +kernel
theorem dX11_signalsNow_126 : decode cX11_signalsNow 126 = .ok (.iinc 1 1, 3) := by decide +kernel
theorem dX11_signalsNow_129 : decode cX11_signalsNow 129 = .ok (.goto (-127), 3) := by decide +kernel
theorem dX11_signalsNow_132 : decode cX11_signalsNow 132 = .ok (.return_, 1) := by decide +kernel
theorem dX11_solve_0 : decode cX11_solve 0 = .ok (.aload_n 0, 1) := by decide +kernel
theorem dX11_solve_1 : decode cX11_solve 1 = .ok (.getfield 159, 3) := by decide +kernel
theorem dX11_solve_4 : decode cX11_solve 4 = .ok (.aload_n 0, 1) := by decide +kernel
theorem dX11_solve_5 : decode cX11_solve 5 = .ok (.getfield 742, 3) := by decide +kernel
theorem dX11_solve_8 : decode cX11_solve 8 = .ok (.iaload, 1) := by decide +kernel
theorem dX11_solve_9 : decode cX11_solve 9 = .ok (.istore_n 1, 1) := by decide +kernel
theorem dX11_solve_10 : decode cX11_solve 10 = .ok (.iconst 0, 1) := by decide +kernel
theorem dX11_solve_11 : decode cX11_solve 11 = .ok (.istore_n 2, 1) := by decide +kernel
theorem dX11_solve_12 : decode cX11_solve 12 = .ok (.iload_n 2, 1) := by decide +kernel
theorem dX11_solve_13 : decode cX11_solve 13 = .ok (.iload_n 1, 1) := by decide +kernel
theorem dX11_solve_14 : decode cX11_solve 14 = .ok (.if_icmp .ge 70, 3) := by decide +kernel
theorem dX11_solve_17 : decode cX11_solve 17 = .ok (.aload_n 0, 1) := by decide +kernel
theorem dX11_solve_18 : decode cX11_solve 18 = .ok (.getfield 207, 3) := by decide +kernel
theorem dX11_solve_21 : decode cX11_solve 21 = .ok (.iload_n 2, 1) := by decide +kernel
theorem dX11_solve_22 : decode cX11_solve 22 = .ok (.iconst 2, 1) := by decide +kernel
theorem dX11_solve_23 : decode cX11_solve 23 = .ok (.iastore, 1) := by decide +kernel
theorem dX11_solve_24 : decode cX11_solve 24 = .ok (.aload_n 0, 1) := by decide +kernel
theorem dX11_solve_25 : decode cX11_solve 25 = .ok (.getfield 210, 3) := by decide +kernel
theorem dX11_solve_28 : decode cX11_solve 28 = .ok (.iload_n 2, 1) := by decide +kernel
theorem dX11_solve_29 : decode cX11_solve 29 = .ok (.iconst 2, 1) := by decide +kernel
theorem dX11_solve_30 : decode cX11_solve 30 = .ok (.iastore, 1) := by decide +kernel
theorem dX11_solve_31 : decode cX11_solve 31 = .ok (.aload_n 0, 1) := by decide +kernel
theorem dX11_solve_32 : decode cX11_solve 32 = .ok (.getfield 213, 3) := by decide +kernel
theorem dX11_solve_35 : decode cX11_solve 35 = .ok (.iload_n 2, 1) := by decide +kernel
theorem dX11_solve_36 : decode cX11_solve 36 = .ok (.iconst 2, 1) := by decide +kernel
theorem dX11_solve_37 : decode cX11_solve 37 = .ok (.iastore, 1) := by decide +kernel
theorem dX11_solve_38 : decode cX11_solve 38 = .ok (.aload_n 0, 1) := by decide +kernel
theorem dX11_solve_39 : decode cX11_solve 39 = .ok (.getfield 216, 3) := by decide +kernel
theorem dX11_solve_42 : decode cX11_solve 42 = .ok (.iload_n 2, 1) := by decide +kernel
theorem dX11_solve_43 : decode cX11_solve 43 = .ok (.iconst 2, 1) := by decide +kernel
theorem dX11_solve_44 : decode cX11_solve 44 = .ok (.iastore, 1) := by decide +kernel
theorem dX11_solve_45 : decode cX11_solve 45 = .ok (.iconst 0, 1) := by decide +kernel
theorem dX11_solve_46 : decode cX11_solve 46 = .ok (.istore_n 3, 1) := by decide +kernel
theorem dX11_solve_47 : decode cX11_solve 47 = .ok (.iload_n 3, 1) := by decide +kernel
theorem dX11_solve_48 : decode cX11_solve 48 = .ok (.aload_n 0, 1) := by decide +kernel
theorem dX11_solve_49 : decode cX11_solve 49 = .ok (.getfield 198, 3) := by decide +kernel
theorem dX11_solve_52 : decode cX11_solve 52 = .ok (.aload_n 0, 1) := by decide +kernel
theorem dX11_solve_53 : decode cX11_solve 53 = .ok (.getfield 742, 3) := by decide +kernel
theorem dX11_solve_56 : decode cX11_solve 56 = .ok (.iaload, 1) := by decide +kernel
theorem dX11_solve_57 : decode cX11_solve 57 = .ok (.if_icmp .ge 21, 3) := by decide +kernel
theorem dX11_solve_60 : decode cX11_solve 60 = .ok (.aload_n 0, 1) := by decide +kernel
theorem dX11_solve_61 : decode cX11_solve 61 = .ok (.getfield 219, 3) := by decide +kernel
theorem dX11_solve_64 : decode cX11_solve 64 = .ok (.bipush 24, 2) := by decide +kernel
theorem dX11_solve_66 : decode cX11_solve 66 = .ok (.iload_n 2, 1) := by decide +kernel
theorem dX11_solve_67 : decode cX11_solve 67 = .ok (.imul, 1) := by decide +kernel
theorem dX11_solve_68 : decode cX11_solve 68 = .ok (.iload_n 3, 1) := by decide +kernel
theorem dX11_solve_69 : decode cX11_solve 69 = .ok (.iadd, 1) := by decide +kernel
theorem dX11_solve_70 : decode cX11_solve 70 = .ok (.iconst 2, 1) := by decide +kernel
theorem dX11_solve_71 : decode cX11_solve 71 = .ok (.iastore, 1) := by decide +kernel
theorem dX11_solve_72 : decode cX11_solve 72 = .ok (.iinc 3 1, 3) := by decide +kernel
theorem dX11_solve_75 : decode cX11_solve 75 = .ok (.goto (-28), 3) := by decide +kernel
theorem dX11_solve_78 : decode cX11_solve 78 = .ok (.iinc 2 1, 3) := by decide +kernel
theorem dX11_solve_81 : decode cX11_solve 81 = .ok (.goto (-69), 3) := by decide +kernel
theorem dX11_solve_84 : decode cX11_solve 84 = .ok (.iconst 0, 1) := by decide +kernel
theorem dX11_solve_85 : decode cX11_solve 85 = .ok (.istore_n 2, 1) := by decide +kernel
theorem dX11_solve_86 : decode cX11_solve 86 = .ok (.iload_n 2, 1) := by decide +kernel
theorem dX11_solve_87 : decode cX11_solve 87 = .ok (.aload_n 0, 1) := by decide +kernel
theorem dX11_solve_88 : decode cX11_solve 88 = .ok (.getfield 23, 3) := by decide +kernel
theorem dX11_solve_91 : decode cX11_solve 91 = .ok (.aload_n 0, 1) := by decide +kernel
theorem dX11_solve_92 : decode cX11_solve 92 = .ok (.getfield 742, 3) := by decide +kernel
