theorem dX8_init_0 : decode cX8_init 0 = .ok (.aload_n 0, 1) := by decide +kernel
theorem dX8_init_1 : decode cX8_init 1 = .ok (.invokespecial 1, 3) := by decide +kernel
theorem dX8_init_4 : decode cX8_init 4 = .ok (.aload_n 0, 1) := by decide +kernel
theorem dX8_init_5 : decode cX8_init 5 = .ok (.sipush 640, 3) := by decide +kernel
theorem dX8_init_8 : decode cX8_init 8 = .ok (.newarray .int, 2) := by decide +kernel
theorem dX8_init_10 : decode cX8_init 10 = .ok (.putfield 9, 3) := by decide +kernel
theorem dX8_init_13 : decode cX8_init 13 = .ok (.aload_n 0, 1) := by decide +kernel
theorem dX8_init_14 : decode cX8_init 14 = .ok (.sipush 640, 3) := by decide +kernel
theorem dX8_init_17 : decode cX8_init 17 = .ok (.newarray .int, 2) := by decide +kernel
theorem dX8_init_19 : decode cX8_init 19 = .ok (.putfield 13, 3) := by decide +kernel
theorem dX8_init_22 : decode cX8_init 22 = .ok (.aload_n 0, 1) := by decide +kernel
theorem dX8_init_23 : decode cX8_init 23 = .ok (.sipush 640, 3) := by decide +kernel
theorem dX8_init_26 : decode cX8_init 26 = .ok (.newarray .int, 2) := by decide +kernel
theorem dX8_init_28 : decode cX8_init 28 = .ok (.putfield 16, 3) := by decide +kernel
theorem dX8_init_31 : decode cX8_init 31 = .ok (.aload_n 0, 1) := by decide +kernel
theorem dX8_init_32 : decode cX8_init 32 = .ok (.sipush 640, 3) := by decide +kernel
theorem dX8_init_35 : decode cX8_init 35 = .ok (.newarray .int, 2) := by decide +kernel
theorem dX8_init_37 : decode cX8_init 37 = .ok (.putfield 19, 3) := by decide +kernel
theorem dX8_init_40 : decode cX8_init 40 = .ok (.aload_n 0, 1) := by decide +kernel
theorem dX8_init_41 : decode cX8_init 41 = .ok (.sipush 640, 3) := by decide +kernel
theorem dX8_init_44 : decode cX8_init 44 = .ok (.newarray .int, 2) := by decide +kernel
theorem dX8_init_46 : decode cX8_init 46 = .ok (.putfield 22, 3) := by decide +kernel
theorem dX8_init_49 : decode cX8_init 49 = .ok (.aload_n 0, 1) := by decide +kernel
theorem dX8_init_50 : decode cX8_init 50 = .ok (.sipush 640, 3) := by decide +kernel
theorem dX8_init_53 : decode cX8_init 53 = .ok (.newarray .int, 2) := by decide +kernel
theorem dX8_init_55 : decode cX8_init 55 = .ok (.putfield 25, 3) := by decide +kernel
theorem dX8_init_58 : decode cX8_init 58 = .ok (.aload_n 0, 1) := by decide +kernel
theorem dX8_init_59 : decode cX8_init 59 = .ok (.sipush 640, 3) := by decide +kernel
theorem dX8_init_62 : decode cX8_init 62 = .ok (.newarray .int, 2) := by decide +kernel
theorem dX8_init_64 : decode cX8_init 64 = .ok (.putfield 28, 3) := by decide +kernel
theorem dX8_init_67 : decode cX8_init 67 = .ok (.aload_n 0, 1) := by decide +kernel
theorem dX8_init_68 : decode cX8_init 68 = .ok (.sipush 640, 3) := by decide +kernel
theorem dX8_init_71 : decode cX8_init 71 = .ok (.newarray .int, 2) := by decide +kernel
theorem dX8_init_73 : decode cX8_init 73 = .ok (.putfield 31, 3) := by decide +kernel
theorem dX8_init_76 : decode cX8_init 76 = .ok (.aload_n 0, 1) := by decide +kernel
theorem dX8_init_77 : decode cX8_init 77 = .ok (.sipush 640, 3) := by decide +kernel
theorem dX8_init_80 : decode cX8_init 80 = .ok (.newarray .int, 2) := by decide +kernel
theorem dX8_init_82 : decode cX8_init 82 = .ok (.putfield 34, 3) := by decide +kernel
theorem dX8_init_85 : decode cX8_init 85 = .ok (.return_, 1) := by decide +kernel
theorem dX8_begin_0 : decode cX8_begin 0 = .ok (.aload_n 0, 1) := by decide +kernel
theorem dX8_begin_1 : decode cX8_begin 1 = .ok (.iconst 1, 1) := by decide +kernel
theorem dX8_begin_2 : decode cX8_begin 2 = .ok (.putfield 37, 3) := by decide +kernel
theorem dX8_begin_5 : decode cX8_begin 5 = .ok (.aload_n 0, 1) := by decide +kernel
theorem dX8_begin_6 : decode cX8_begin 6 = .ok (.iconst 0, 1) := by decide +kernel
theorem dX8_begin_7 : decode cX8_begin 7 = .ok (.putfield 41, 3) := by decide +kernel
theorem dX8_begin_10 : decode cX8_begin 10 = .ok (.return_, 1) := by decide +kernel
theorem dX8_make_0 : decode cX8_make 0 = .ok (.aload_n 0, 1) := by decide +kernel
theorem dX8_make_1 : decode cX8_make 1 = .ok (.getfield 37, 3) := by decide +kernel
theorem dX8_make_4 : decode cX8_make 4 = .ok (.sipush 640, 3) := by decide +kernel
theorem dX8_make_7 : decode cX8_make 7 = .ok (.if_icmp .lt 5, 3) := by decide +kernel
theorem dX8_make_10 : decode cX8_make 10 = .ok (.iconst 0, 1) := by decide +kernel
theorem dX8_make_11 : decode cX8_make 11 = .ok (.ireturn, 1) := by decide +kernel
theorem dX8_make_12 : decode cX8_make 12 = .ok (.aload_n 0, 1) := by decide +kernel
theorem dX8_make_13 : decode cX8_make 13 = .ok (.getfield 37, 3) := by decide +kernel
theorem dX8_make_16 : decode cX8_make 16 = .ok (.istore_n 2, 1) := by decide +kernel
theorem dX8_make_17 : decode cX8_make 17 = .ok (.aload_n 0, 1) := by decide +kernel
theorem dX8_make_18 : decode cX8_make 18 = .ok (.dup, 1) := by decide +kernel
theorem dX8_make_19 : decode cX8_make 19 = .ok (.getfield 37, 3) := by decide +kernel
theorem dX8_make_22 : decode cX8_make 22 = .ok (.iconst 1, 1) := by decide +kernel
theorem dX8_make_23 : decode cX8_make 23 = .ok (.iadd, 1) := by decide +kernel
theorem dX8_make_24 : decode cX8_make 24 = .ok (.putfield 37, 3) := by decide +kernel
theorem dX8_make_27 : decode cX8_make 27 = .ok (.aload_n 0, 1) := by decide +kernel
theorem dX8_make_28 : decode cX8_make 28 = .ok (.getfield 9, 3) := by decide +kernel
theorem dX8_make_31 : decode cX8_make 31 = .ok (.iload_n 2, 1) := by decide +kernel
theorem dX8_make_32 : decode cX8_make 32 = .ok (.iload_n 1, 1) := by decide +kernel
theorem dX8_make_33 : decode cX8_make 33 = .ok (.iastore, 1) := by decide +kernel
theorem dX8_make_34 : decode cX8_make 34 = .ok (.aload_n 0, 1) := by decide +kernel
theorem dX8_make_35 : decode cX8_make 35 = .ok (.getfield 13, 3) := by decide +kernel
theorem dX8_make_38 : decode cX8_make 38 = .ok (.iload_n 2, 1) := by decide +kernel
theorem dX8_make_39 : decode cX8_make 39 = .ok (.iconst 0, 1) := by decide +kernel
theorem dX8_make_40 : decode cX8_make 40 = .ok (.iastore, 1) := by decide +kernel
theorem dX8_make_41 : decode cX8_make 41 = .ok (.aload_n 0, 1) := by decide +kernel
theorem dX8_make_42 : decode cX8_make 42 = .ok (.getfield 16, 3) := by decide +kernel
theorem dX8_make_45 : decode cX8_make 45 = .ok (.iload_n 2, 1) := by decide +kernel
theorem dX8_make_46 : decode cX8_make 46 = .ok (.iconst 0, 1) := by decide +kernel
theorem dX8_make_47 : decode cX8_make 47 = .ok (.iastore, 1) := by decide +kernel
theorem dX8_make_48 : decode cX8_make 48 = .ok (.aload_n 0, 1) := by decide +kernel
theorem dX8_make_49 : decode cX8_make 49 = .ok (.getfield 19, 3) := by decide +kernel
theorem dX8_make_52 : decode cX8_make 52 = .ok (.iload_n 2, 1) := by decide +kernel
theorem dX8_make_53 : decode cX8_make 53 = .ok (.iconst 0, 1) := by decide +kernel
theorem dX8_make_54 : decode cX8_make 54 = .ok (.iastore, 1) := by decide +kernel
theorem dX8_make_55 : decode cX8_make 55 = .ok (.aload_n 0, 1) := by decide +kernel
theorem dX8_make_56 : decode cX8_make 56 = .ok (.getfield 22, 3) := by decide +kernel
theorem dX8_make_59 : decode cX8_make 59 = .ok (.iload_n 2, 1) := by decide +kernel
theorem dX8_make_60 : decode cX8_make 60 = .ok (.iconst 0, 1) := by decide +kernel
theorem dX8_make_61 : decode cX8_make 61 = .ok (.iastore, 1) := by decide +kernel
theorem dX8_make_62 : decode cX8_make 62 = .ok (.aload_n 0, 1) := by decide +kernel
theorem dX8_make_63 : decode cX8_make 63 = .ok (.getfield 25, 3) := by decide +kernel
theorem dX8_make_66 : decode cX8_make 66 = .ok (.iload_n 2, 1) := by decide +kernel
theorem dX8_make_67 : decode cX8_make 67 = .ok (.iconst 0, 1) := by decide +kernel
theorem dX8_make_68 : decode cX8_make 68 = .ok (.iastore, 1) := by decide +kernel
theorem dX8_make_69 : decode cX8_make 69 = .ok (.aload_n 0, 1) := by decide +kernel
theorem dX8_make_70 : decode cX8_make 70 = .ok (.getfield 28, 3) := by decide +kernel
theorem dX8_make_73 : decode cX8_make 73 = .ok (.iload_n 2, 1) := by decide +kernel
theorem dX8_make_74 : decode cX8_make 74 = .ok (.iconst 0, 1) := by decide +kernel
theorem dX8_make_75 : decode cX8_make 75 = .ok (.iastore, 1) := by decide +kernel
theorem dX8_make_76 : decode cX8_make 76 = .ok (.aload_n 0, 1) := by decide +kernel
theorem dX8_make_77 : decode cX8_make 77 = .ok (.getfield 31, 3) := by decide +kernel
theorem dX8_make_80 : decode cX8_make 80 = .ok (.iload_n 2, 1) := by decide +kernel
theorem dX8_make_81 : decode cX8_make 81 = .ok (.iconst 0, 1) := by decide +kernel
theorem dX8_make_82 : decode cX8_make 82 = .ok (.iastore, 1) := by decide +kernel
theorem dX8_make_83 : decode cX8_make 83 = .ok (.aload_n 0, 1) := by decide +kernel
theorem dX8_make_84 : decode cX8_make 84 = .ok (.getfield 34, 3) := by decide +kernel
theorem dX8_make_87 : decode cX8_make 87 = .ok (.iload_n 2, 1) := by decide +kernel
theorem dX8_make_88 : decode cX8_make 88 = .ok (.iload_n 1, 1) := by decide +kernel
theorem dX8_make_89 : decode cX8_make 89 = .ok (.ifCond .eq 8, 3) := by decide +kernel
theorem dX8_make_92 : decode cX8_make 92 = .ok (.iload_n 1, 1) := by decide +kernel
theorem dX8_make_93 : decode cX8_make 93 = .ok (.iconst 5, 1) := by decide +kernel
theorem dX8_make_94 : decode cX8_make 94 = .ok (.if_icmp .ne 7, 3) := by decide +kernel
theorem dX8_make_97 : decode cX8_make 97 = .ok (.iconst 1, 1) := by decide +kernel
theorem dX8_make_98 : decode cX8_make 98 = .ok (.goto 4, 3) := by decide +kernel
theorem dX8_make_101 : decode cX8_make 101 = .ok (.iconst 0, 1) := by decide +kernel
theorem dX8_make_102 : decode cX8_make 102 = .ok (.iastore, 1) := by decide +kernel
theorem dX8_make_103 : decode cX8_make 103 = .ok (.iload_n 2, 1) := by decide +kernel
theorem dX8_make_104 : decode cX8_make 104 = .ok (.ireturn, 1) := by decide +kernel
theorem dX8_hang_0 : decode cX8_hang 0 = .ok (.iload_n 1, 1) := by decide +kernel
theorem dX8_hang_1 : decode cX8_hang 1 = .ok (.ifCond .eq 7, 3) := by decide +kernel
theorem dX8_hang_4 : decode cX8_hang 4 = .ok (.iload_n 2, 1) := by decide +kernel
theorem dX8_hang_5 : decode cX8_hang 5 = .ok (.ifCond .ne 4, 3) := by decide +kernel
theorem dX8_hang_8 : decode cX8_hang 8 = .ok (.return_, 1) := by decide +kernel
theorem dX8_hang_9 : decode cX8_hang 9 = .ok (.aload_n 0, 1) := by decide +kernel
theorem dX8_hang_10 : decode cX8_hang 10 = .ok (.getfield 34, 3) := by decide +kernel
theorem dX8_hang_13 : decode cX8_hang 13 = .ok (.iload_n 1, 1) := by decide +kernel
theorem dX8_hang_14 : decode cX8_hang 14 = .ok (.iaload, 1) := by decide +kernel
theorem dX8_hang_15 : decode cX8_hang 15 = .ok (.istore_n 3, 1) := by decide +kernel
theorem dX8_hang_16 : decode cX8_hang 16 = .ok (.aload_n 0, 1) := by decide +kernel
theorem dX8_hang_17 : decode cX8_hang 17 = .ok (.getfield 34, 3) := by decide +kernel
theorem dX8_hang_20 : decode cX8_hang 20 = .ok (.iload_n 2, 1) := by decide +kernel
theorem dX8_hang_21 : decode cX8_hang 21 = .ok (.iaload, 1) := by decide +kernel
theorem dX8_hang_22 : decode cX8_hang 22 = .ok (.istore 4, 2) := by decide +kernel
theorem dX8_hang_24 : decode cX8_hang 24 = .ok (.aload_n 0, 1) := by decide +kernel
theorem dX8_hang_25 : decode cX8_hang 25 = .ok (.getfield 13, 3) := by decide +kernel
theorem dX8_hang_28 : decode cX8_hang 28 = .ok (.iload_n 1, 1) := by decide +kernel
theorem dX8_hang_29 : decode cX8_hang 29 = .ok (.iaload, 1) := by decide +kernel
theorem dX8_hang_30 : decode cX8_hang 30 = .ok (.ifCond .ne 7, 3) := by decide +kernel
theorem dX8_hang_33 : decode cX8_hang 33 = .ok (.iconst 1, 1) := by decide +kernel
theorem dX8_hang_34 : decode cX8_hang 34 = .ok (.goto 4, 3) := by decide +kernel
theorem dX8_hang_37 : decode cX8_hang 37 = .ok (.iconst 0, 1) := by decide +kernel
theorem dX8_hang_38 : decode cX8_hang 38 = .ok (.istore 5, 2) := by decide +kernel
theorem dX8_hang_40 : decode cX8_hang 40 = .ok (.aload_n 0, 1) := by decide +kernel
theorem dX8_hang_41 : decode cX8_hang 41 = .ok (.getfield 9, 3) := by decide +kernel
theorem dX8_hang_44 : decode cX8_hang 44 = .ok (.iload_n 1, 1) := by decide +kernel
theorem dX8_hang_45 : decode cX8_hang 45 = .ok (.iaload, 1) := by decide +kernel
theorem dX8_hang_46 : decode cX8_hang 46 = .ok (.tableswitch 160 5 9 #[34, 60, 160, 74, 132], 34) := by decide +kernel
theorem dX8_hang_80 : decode cX8_hang 80 = .ok (.aload_n 0, 1) := by decide +kernel
theorem dX8_hang_81 : decode cX8_hang 81 = .ok (.getfield 34, 3) := by decide +kernel
theorem dX8_hang_84 : decode cX8_hang 84 = .ok (.iload_n 1, 1) := by decide +kernel
theorem dX8_hang_85 : decode cX8_hang 85 = .ok (.iload_n 3, 1) := by decide +kernel
theorem dX8_hang_86 : decode cX8_hang 86 = .ok (.iconst 1, 1) := by decide +kernel
theorem dX8_hang_87 : decode cX8_hang 87 = .ok (.iand, 1) := by decide +kernel
theorem dX8_hang_88 : decode cX8_hang 88 = .ok (.ifCond .ne 7, 3) := by decide +kernel
theorem dX8_hang_91 : decode cX8_hang 91 = .ok (.iload_n 3, 1) := by decide +kernel
theorem dX8_hang_92 : decode cX8_hang 92 = .ok (.goto 10, 3) := by decide +kernel
theorem dX8_hang_95 : decode cX8_hang 95 = .ok (.iload_n 3, 1) := by decide +kernel
theorem dX8_hang_96 : decode cX8_hang 96 = .ok (.bipush (-2), 2) := by decide +kernel
theorem dX8_hang_98 : decode cX8_hang 98 = .ok (.iand, 1) := by decide +kernel
theorem dX8_hang_99 : decode cX8_hang 99 = .ok (.iload 4, 2) := by decide +kernel
theorem dX8_hang_101 : decode cX8_hang 101 = .ok (.ior, 1) := by decide +kernel
theorem dX8_hang_102 : decode cX8_hang 102 = .ok (.iastore, 1) := by decide +kernel
theorem dX8_hang_103 : decode cX8_hang 103 = .ok (.goto 113, 3) := by decide +kernel
theorem dX8_hang_106 : decode cX8_hang 106 = .ok (.aload_n 0, 1) := by decide +kernel
theorem dX8_hang_107 : decode cX8_hang 107 = .ok (.getfield 34, 3) := by decide +kernel
theorem dX8_hang_110 : decode cX8_hang 110 = .ok (.iload_n 1, 1) := by decide +kernel
theorem dX8_hang_111 : decode cX8_hang 111 = .ok (.iload 4, 2) := by decide +kernel
theorem dX8_hang_113 : decode cX8_hang 113 = .ok (.bipush (-2), 2) := by decide +kernel
theorem dX8_hang_115 : decode cX8_hang 115 = .ok (.iand, 1) := by decide +kernel
theorem dX8_hang_116 : decode cX8_hang 116 = .ok (.iastore, 1) := by decide +kernel
theorem dX8_hang_117 : decode cX8_hang 117 = .ok (.goto 99, 3) := by decide +kernel
theorem dX8_hang_120 : decode cX8_hang 120 = .ok (.iload_n 3, 1) := by decide +kernel
theorem dX8_hang_121 : decode cX8_hang 121 = .ok (.invokestatic 46, 3) := by decide +kernel
theorem dX8_hang_124 : decode cX8_hang 124 = .ok (.iload 4, 2) := by decide +kernel
theorem dX8_hang_126 : decode cX8_hang 126 = .ok (.invokestatic 46, 3) := by decide +kernel
theorem dX8_hang_129 : decode cX8_hang 129 = .ok (.invokestatic 52, 3) := by decide +kernel
theorem dX8_hang_132 : decode cX8_hang 132 = .ok (.istore 6, 2) := by decide +kernel
theorem dX8_hang_134 : decode cX8_hang 134 = .ok (.iload_n 3, 1) := by decide +kernel
theorem dX8_hang_135 : decode cX8_hang 135 = .ok (.ifCond .eq 8, 3) := by decide +kernel
theorem dX8_hang_138 : decode cX8_hang 138 = .ok (.iload 4, 2) := by decide +kernel
theorem dX8_hang_140 : decode cX8_hang 140 = .ok (.ifCond .ne 7, 3) := by decide +kernel
theorem dX8_hang_143 : decode cX8_hang 143 = .ok (.iconst 0, 1) := by decide +kernel
theorem dX8_hang_144 : decode cX8_hang 144 = .ok (.goto 11, 3) := by decide +kernel
theorem dX8_hang_147 : decode cX8_hang 147 = .ok (.iload_n 3, 1) := by decide +kernel
theorem dX8_hang_148 : decode cX8_hang 148 = .ok (.iload 4, 2) := by decide +kernel
theorem dX8_hang_150 : decode cX8_hang 150 = .ok (.ior, 1) := by decide +kernel
theorem dX8_hang_151 : decode cX8_hang 151 = .ok (.iload 6, 2) := by decide +kernel
theorem dX8_hang_153 : decode cX8_hang 153 = .ok (.ineg, 1) := by decide +kernel
theorem dX8_hang_154 : decode cX8_hang 154 = .ok (.iand, 1) := by decide +kernel
theorem dX8_hang_155 : decode cX8_hang 155 = .ok (.istore 7, 2) := by decide +kernel
theorem dX8_hang_157 : decode cX8_hang 157 = .ok (.aload_n 0, 1) := by decide +kernel
theorem dX8_hang_158 : decode cX8_hang 158 = .ok (.getfield 34, 3) := by decide +kernel
theorem dX8_hang_161 : decode cX8_hang 161 = .ok (.iload_n 1, 1) := by decide +kernel
theorem dX8_hang_162 : decode cX8_hang 162 = .ok (.iload 5, 2) := by decide +kernel
theorem dX8_hang_164 : decode cX8_hang 164 = .ok (.ifCond .eq 8, 3) := by decide +kernel
theorem dX8_hang_167 : decode cX8_hang 167 = .ok (.iload 4, 2) := by decide +kernel
theorem dX8_hang_169 : decode cX8_hang 169 = .ok (.goto 5, 3) := by decide +kernel
theorem dX8_hang_172 : decode cX8_hang 172 = .ok (.iload 7, 2) := by decide +kernel
theorem dX8_hang_174 : decode cX8_hang 174 = .ok (.iastore, 1) := by decide +kernel
theorem dX8_hang_175 : decode cX8_hang 175 = .ok (.goto 41, 3) := by decide +kernel
theorem dX8_hang_178 : decode cX8_hang 178 = .ok (.aload_n 0, 1) := by decide +kernel
theorem dX8_hang_179 : decode cX8_hang 179 = .ok (.getfield 34, 3) := by decide +kernel
theorem dX8_hang_182 : decode cX8_hang 182 = .ok (.iload_n 1, 1) := by decide +kernel
theorem dX8_hang_183 : decode cX8_hang 183 = .ok (.iload 4, 2) := by decide +kernel
theorem dX8_hang_185 : decode cX8_hang 185 = .ok (.iconst 3, 1) := by decide +kernel
theorem dX8_hang_186 : decode cX8_hang 186 = .ok (.iand, 1) := by decide +kernel
theorem dX8_hang_187 : decode cX8_hang 187 = .ok (.iload 4, 2) := by decide +kernel
theorem dX8_hang_189 : decode cX8_hang 189 = .ok (.iconst 2, 1) := by decide +kernel
theorem dX8_hang_190 : decode cX8_hang 190 = .ok (.iushr, 1) := by decide +kernel
theorem dX8_hang_191 : decode cX8_hang 191 = .ok (.iconst 1, 1) := by decide +kernel
theorem dX8_hang_192 : decode cX8_hang 192 = .ok (.iand, 1) := by decide +kernel
theorem dX8_hang_193 : decode cX8_hang 193 = .ok (.ior, 1) := by decide +kernel
theorem dX8_hang_194 : decode cX8_hang 194 = .ok (.iload 4, 2) := by decide +kernel
theorem dX8_hang_196 : decode cX8_hang 196 = .ok (.iconst 1, 1) := by decide +kernel
theorem dX8_hang_197 : decode cX8_hang 197 = .ok (.iushr, 1) := by decide +kernel
theorem dX8_hang_198 : decode cX8_hang 198 = .ok (.bipush (-4), 2) := by decide +kernel
theorem dX8_hang_200 : decode cX8_hang 200 = .ok (.iand, 1) := by decide +kernel
theorem dX8_hang_201 : decode cX8_hang 201 = .ok (.ior, 1) := by decide +kernel
theorem dX8_hang_202 : decode cX8_hang 202 = .ok (.iastore, 1) := by decide +kernel
theorem dX8_hang_203 : decode cX8_hang 203 = .ok (.goto 13, 3) := by decide +kernel
theorem dX8_hang_206 : decode cX8_hang 206 = .ok (.aload_n 0, 1) := by decide +kernel
theorem dX8_hang_207 : decode cX8_hang 207 = .ok (.getfield 34, 3) := by decide +kernel
theorem dX8_hang_210 : decode cX8_hang 210 = .ok (.iload_n 1, 1) := by decide +kernel
theorem dX8_hang_211 : decode cX8_hang 211 = .ok (.iload_n 3, 1) := by decide +kernel
theorem dX8_hang_212 : decode cX8_hang 212 = .ok (.iload 4, 2) := by decide +kernel
theorem dX8_hang_214 : decode cX8_hang 214 = .ok (.ior, 1) := by decide +kernel
theorem dX8_hang_215 : decode cX8_hang 215 = .ok (.iastore, 1) := by decide +kernel
theorem dX8_hang_216 : decode cX8_hang 216 = .ok (.aload_n 0, 1) := by decide +kernel
theorem dX8_hang_217 : decode cX8_hang 217 = .ok (.getfield 31, 3) := by decide +kernel
theorem dX8_hang_220 : decode cX8_hang 220 = .ok (.iload_n 1, 1) := by decide +kernel
theorem dX8_hang_221 : decode cX8_hang 221 = .ok (.dup2, 1) := by decide +kernel
theorem dX8_hang_222 : decode cX8_hang 222 = .ok (.iaload, 1) := by decide +kernel
theorem dX8_hang_223 : decode cX8_hang 223 = .ok (.aload_n 0, 1) := by decide +kernel
theorem dX8_hang_224 : decode cX8_hang 224 = .ok (.getfield 31, 3) := by decide +kernel
theorem dX8_hang_227 : decode cX8_hang 227 = .ok (.iload_n 2, 1) := by decide +kernel
theorem dX8_hang_228 : decode cX8_hang 228 = .ok (.iaload, 1) := by decide +kernel
theorem dX8_hang_229 : decode cX8_hang 229 = .ok (.ior, 1) := by decide +kernel
theorem dX8_hang_230 : decode cX8_hang 230 = .ok (.iastore, 1) := by decide +kernel
theorem dX8_hang_231 : decode cX8_hang 231 = .ok (.aload_n 0, 1) := by decide +kernel
theorem dX8_hang_232 : decode cX8_hang 232 = .ok (.getfield 22, 3) := by decide +kernel
theorem dX8_hang_235 : decode cX8_hang 235 = .ok (.iload_n 2, 1) := by decide +kernel
theorem dX8_hang_236 : decode cX8_hang 236 = .ok (.iload_n 1, 1) := by decide +kernel
theorem dX8_hang_237 : decode cX8_hang 237 = .ok (.iastore, 1) := by decide +kernel
theorem dX8_hang_238 : decode cX8_hang 238 = .ok (.iload 5, 2) := by decide +kernel
theorem dX8_hang_240 : decode cX8_hang 240 = .ok (.ifCond .eq 13, 3) := by decide +kernel
theorem dX8_hang_243 : decode cX8_hang 243 = .ok (.aload_n 0, 1) := by decide +kernel
theorem dX8_hang_244 : decode cX8_hang 244 = .ok (.getfield 13, 3) := by decide +kernel
theorem dX8_hang_247 : decode cX8_hang 247 = .ok (.iload_n 1, 1) := by decide +kernel
theorem dX8_hang_248 : decode cX8_hang 248 = .ok (.iload_n 2, 1) := by decide +kernel
theorem dX8_hang_249 : decode cX8_hang 249 = .ok (.iastore, 1) := by decide +kernel
theorem dX8_hang_250 : decode cX8_hang 250 = .ok (.goto 15, 3) := by decide +kernel
theorem dX8_hang_253 : decode cX8_hang 253 = .ok (.aload_n 0, 1) := by decide +kernel
theorem dX8_hang_254 : decode cX8_hang 254 = .ok (.getfield 19, 3) := by decide +kernel
theorem dX8_hang_257 : decode cX8_hang 257 = .ok (.aload_n 0, 1) := by decide +kernel
theorem dX8_hang_258 : decode cX8_hang 258 = .ok (.getfield 16, 3) := by decide +kernel
theorem dX8_hang_261 : decode cX8_hang 261 = .ok (.iload_n 1, 1) := by decide +kernel
theorem dX8_hang_262 : decode cX8_hang 262 = .ok (.iaload, 1) := by decide +kernel
theorem dX8_hang_263 : decode cX8_hang 263 = .ok (.iload_n 2, 1) := by decide +kernel
theorem dX8_hang_264 : decode cX8_hang 264 = .ok (.iastore, 1) := by decide +kernel
theorem dX8_hang_265 : decode cX8_hang 265 = .ok (.aload_n 0, 1) := by decide +kernel
theorem dX8_hang_266 : decode cX8_hang 266 = .ok (.getfield 16, 3) := by decide +kernel
theorem dX8_hang_269 : decode cX8_hang 269 = .ok (.iload_n 1, 1) := by decide +kernel
theorem dX8_hang_270 : decode cX8_hang 270 = .ok (.iload_n 2, 1) := by decide +kernel
theorem dX8_hang_271 : decode cX8_hang 271 = .ok (.iastore, 1) := by decide +kernel
theorem dX8_hang_272 : decode cX8_hang 272 = .ok (.return_, 1) := by decide +kernel
theorem dX8_canEndAtOnce_0 : decode cX8_canEndAtOnce 0 = .ok (.aload_n 0, 1) := by decide +kernel
theorem dX8_canEndAtOnce_1 : decode cX8_canEndAtOnce 1 = .ok (.getfield 34, 3) := by decide +kernel
theorem dX8_canEndAtOnce_4 : decode cX8_canEndAtOnce 4 = .ok (.iload_n 1, 1) := by decide +kernel
theorem dX8_canEndAtOnce_5 : decode cX8_canEndAtOnce 5 = .ok (.iaload, 1) := by decide +kernel
theorem dX8_canEndAtOnce_6 : decode cX8_canEndAtOnce 6 = .ok (.iconst 1, 1) := by decide +kernel
theorem dX8_canEndAtOnce_7 : decode cX8_canEndAtOnce 7 = .ok (.iand, 1) := by decide +kernel
theorem dX8_canEndAtOnce_8 : decode cX8_canEndAtOnce 8 = .ok (.ifCond .eq 7, 3) := by decide +kernel
theorem dX8_canEndAtOnce_11 : decode cX8_canEndAtOnce 11 = .ok (.iconst 1, 1) := by decide +kernel
theorem dX8_canEndAtOnce_12 : decode cX8_canEndAtOnce 12 = .ok (.goto 4, 3) := by decide +kernel
theorem dX8_canEndAtOnce_15 : decode cX8_canEndAtOnce 15 = .ok (.iconst 0, 1) := by decide +kernel
theorem dX8_canEndAtOnce_16 : decode cX8_canEndAtOnce 16 = .ok (.ireturn, 1) := by decide +kernel
theorem dX8_wrap_0 : decode cX8_wrap 0 = .ok (.aload_n 0, 1) := by decide +kernel
theorem dX8_wrap_1 : decode cX8_wrap 1 = .ok (.iload_n 1, 1) := by decide +kernel
theorem dX8_wrap_2 : decode cX8_wrap 2 = .ok (.invokevirtual 58, 3) := by decide +kernel
theorem dX8_wrap_5 : decode cX8_wrap 5 = .ok (.istore_n 3, 1) := by decide +kernel
theorem dX8_wrap_6 : decode cX8_wrap 6 = .ok (.aload_n 0, 1) := by decide +kernel
theorem dX8_wrap_7 : decode cX8_wrap 7 = .ok (.iload_n 3, 1) := by decide +kernel
theorem dX8_wrap_8 : decode cX8_wrap 8 = .ok (.iload_n 2, 1) := by decide +kernel
theorem dX8_wrap_9 : decode cX8_wrap 9 = .ok (.invokevirtual 61, 3) := by decide +kernel
theorem dX8_wrap_12 : decode cX8_wrap 12 = .ok (.iload_n 3, 1) := by decide +kernel
theorem dX8_wrap_13 : decode cX8_wrap 13 = .ok (.ireturn, 1) := by decide +kernel
theorem dX8_pair_0 : decode cX8_pair 0 = .ok (.aload_n 0, 1) := by decide +kernel
theorem dX8_pair_1 : decode cX8_pair 1 = .ok (.iload_n 1, 1) := by decide +kernel
theorem dX8_pair_2 : decode cX8_pair 2 = .ok (.invokevirtual 58, 3) := by decide +kernel
theorem dX8_pair_5 : decode cX8_pair 5 = .ok (.istore 4, 2) := by decide +kernel
theorem dX8_pair_7 : decode cX8_pair 7 = .ok (.aload_n 0, 1) := by decide +kernel
theorem dX8_pair_8 : decode cX8_pair 8 = .ok (.iload 4, 2) := by decide +kernel
theorem dX8_pair_10 : decode cX8_pair 10 = .ok (.iload_n 2, 1) := by decide +kernel
theorem dX8_pair_11 : decode cX8_pair 11 = .ok (.invokevirtual 61, 3) := by decide +kernel
theorem dX8_pair_14 : decode cX8_pair 14 = .ok (.aload_n 0, 1) := by decide +kernel
theorem dX8_pair_15 : decode cX8_pair 15 = .ok (.iload 4, 2) := by decide +kernel
theorem dX8_pair_17 : decode cX8_pair 17 = .ok (.iload_n 3, 1) := by decide +kernel
theorem dX8_pair_18 : decode cX8_pair 18 = .ok (.invokevirtual 61, 3) := by decide +kernel
theorem dX8_pair_21 : decode cX8_pair 21 = .ok (.iload 4, 2) := by decide +kernel
theorem dX8_pair_23 : decode cX8_pair 23 = .ok (.ireturn, 1) := by decide +kernel
theorem dX8_pauseNode_0 : decode cX8_pauseNode 0 = .ok (.aload_n 0, 1) := by decide +kernel
theorem dX8_pauseNode_1 : decode cX8_pauseNode 1 = .ok (.iconst 1, 1) := by decide +kernel
theorem dX8_pauseNode_2 : decode cX8_pauseNode 2 = .ok (.invokevirtual 58, 3) := by decide +kernel
theorem dX8_pauseNode_5 : decode cX8_pauseNode 5 = .ok (.istore_n 1, 1) := by decide +kernel
theorem dX8_pauseNode_6 : decode cX8_pauseNode 6 = .ok (.aload_n 0, 1) := by decide +kernel
theorem dX8_pauseNode_7 : decode cX8_pauseNode 7 = .ok (.getfield 28, 3) := by decide +kernel
theorem dX8_pauseNode_10 : decode cX8_pauseNode 10 = .ok (.iload_n 1, 1) := by decide +kernel
theorem dX8_pauseNode_11 : decode cX8_pauseNode 11 = .ok (.aload_n 0, 1) := by decide +kernel
theorem dX8_pauseNode_12 : decode cX8_pauseNode 12 = .ok (.getfield 41, 3) := by decide +kernel
theorem dX8_pauseNode_15 : decode cX8_pauseNode 15 = .ok (.iastore, 1) := by decide +kernel
theorem dX8_pauseNode_16 : decode cX8_pauseNode 16 = .ok (.aload_n 0, 1) := by decide +kernel
theorem dX8_pauseNode_17 : decode cX8_pauseNode 17 = .ok (.getfield 31, 3) := by decide +kernel
theorem dX8_pauseNode_20 : decode cX8_pauseNode 20 = .ok (.iload_n 1, 1) := by decide +kernel
theorem dX8_pauseNode_21 : decode cX8_pauseNode 21 = .ok (.iconst 1, 1) := by decide +kernel
theorem dX8_pauseNode_22 : decode cX8_pauseNode 22 = .ok (.aload_n 0, 1) := by decide +kernel
theorem dX8_pauseNode_23 : decode cX8_pauseNode 23 = .ok (.getfield 41, 3) := by decide +kernel
theorem dX8_pauseNode_26 : decode cX8_pauseNode 26 = .ok (.ishl, 1) := by decide +kernel
theorem dX8_pauseNode_27 : decode cX8_pauseNode 27 = .ok (.iastore, 1) := by decide +kernel
theorem dX8_pauseNode_28 : decode cX8_pauseNode 28 = .ok (.aload_n 0, 1) := by decide +kernel
theorem dX8_pauseNode_29 : decode cX8_pauseNode 29 = .ok (.getfield 34, 3) := by decide +kernel
theorem dX8_pauseNode_32 : decode cX8_pauseNode 32 = .ok (.iload_n 1, 1) := by decide +kernel
theorem dX8_pauseNode_33 : decode cX8_pauseNode 33 = .ok (.iconst 2, 1) := by decide +kernel
theorem dX8_pauseNode_34 : decode cX8_pauseNode 34 = .ok (.iastore, 1) := by decide +kernel
theorem dX8_pauseNode_35 : decode cX8_pauseNode 35 = .ok (.aload_n 0, 1) := by decide +kernel
theorem dX8_pauseNode_36 : decode cX8_pauseNode 36 = .ok (.dup, 1) := by decide +kernel
theorem dX8_pauseNode_37 : decode cX8_pauseNode 37 = .ok (.getfield 41, 3) := by decide +kernel
theorem dX8_pauseNode_40 : decode cX8_pauseNode 40 = .ok (.iconst 1, 1) := by decide +kernel
theorem dX8_pauseNode_41 : decode cX8_pauseNode 41 = .ok (.iadd, 1) := by decide +kernel
theorem dX8_pauseNode_42 : decode cX8_pauseNode 42 = .ok (.putfield 41, 3) := by decide +kernel
theorem dX8_pauseNode_45 : decode cX8_pauseNode 45 = .ok (.iload_n 1, 1) := by decide +kernel
theorem dX8_pauseNode_46 : decode cX8_pauseNode 46 = .ok (.ireturn, 1) := by decide +kernel
theorem dX8_emit_0 : decode cX8_emit 0 = .ok (.aload_n 0, 1) := by decide +kernel
theorem dX8_emit_1 : decode cX8_emit 1 = .ok (.iconst 2, 1) := by decide +kernel
theorem dX8_emit_2 : decode cX8_emit 2 = .ok (.invokevirtual 58, 3) := by decide +kernel
theorem dX8_emit_5 : decode cX8_emit 5 = .ok (.istore_n 2, 1) := by decide +kernel
theorem dX8_emit_6 : decode cX8_emit 6 = .ok (.aload_n 0, 1) := by decide +kernel
theorem dX8_emit_7 : decode cX8_emit 7 = .ok (.getfield 28, 3) := by decide +kernel
theorem dX8_emit_10 : decode cX8_emit 10 = .ok (.iload_n 2, 1) := by decide +kernel
theorem dX8_emit_11 : decode cX8_emit 11 = .ok (.iload_n 1, 1) := by decide +kernel
theorem dX8_emit_12 : decode cX8_emit 12 = .ok (.iastore, 1) := by decide +kernel
theorem dX8_emit_13 : decode cX8_emit 13 = .ok (.aload_n 0, 1) := by decide +kernel
theorem dX8_emit_14 : decode cX8_emit 14 = .ok (.getfield 34, 3) := by decide +kernel
theorem dX8_emit_17 : decode cX8_emit 17 = .ok (.iload_n 2, 1) := by decide +kernel
theorem dX8_emit_18 : decode cX8_emit 18 = .ok (.iconst 1, 1) := by decide +kernel
theorem dX8_emit_19 : decode cX8_emit 19 = .ok (.iastore, 1) := by decide +kernel
theorem dX8_emit_20 : decode cX8_emit 20 = .ok (.iload_n 2, 1) := by decide +kernel
theorem dX8_emit_21 : decode cX8_emit 21 = .ok (.ireturn, 1) := by decide +kernel
theorem dX8_exit_0 : decode cX8_exit 0 = .ok (.aload_n 0, 1) := by decide +kernel
theorem dX8_exit_1 : decode cX8_exit 1 = .ok (.iconst 3, 1) := by decide +kernel
theorem dX8_exit_2 : decode cX8_exit 2 = .ok (.invokevirtual 58, 3) := by decide +kernel
theorem dX8_exit_5 : decode cX8_exit 5 = .ok (.istore_n 2, 1) := by decide +kernel
theorem dX8_exit_6 : decode cX8_exit 6 = .ok (.aload_n 0, 1) := by decide +kernel
theorem dX8_exit_7 : decode cX8_exit 7 = .ok (.getfield 28, 3) := by decide +kernel
theorem dX8_exit_10 : decode cX8_exit 10 = .ok (.iload_n 2, 1) := by decide +kernel
theorem dX8_exit_11 : decode cX8_exit 11 = .ok (.iconst 2, 1) := by decide +kernel
theorem dX8_exit_12 : decode cX8_exit 12 = .ok (.iload_n 1, 1) := by decide +kernel
theorem dX8_exit_13 : decode cX8_exit 13 = .ok (.iadd, 1) := by decide +kernel
theorem dX8_exit_14 : decode cX8_exit 14 = .ok (.iastore, 1) := by decide +kernel
theorem dX8_exit_15 : decode cX8_exit 15 = .ok (.aload_n 0, 1) := by decide +kernel
theorem dX8_exit_16 : decode cX8_exit 16 = .ok (.getfield 34, 3) := by decide +kernel
theorem dX8_exit_19 : decode cX8_exit 19 = .ok (.iload_n 2, 1) := by decide +kernel
theorem dX8_exit_20 : decode cX8_exit 20 = .ok (.iconst 1, 1) := by decide +kernel
theorem dX8_exit_21 : decode cX8_exit 21 = .ok (.aload_n 0, 1) := by decide +kernel
theorem dX8_exit_22 : decode cX8_exit 22 = .ok (.getfield 28, 3) := by decide +kernel
theorem dX8_exit_25 : decode cX8_exit 25 = .ok (.iload_n 2, 1) := by decide +kernel
theorem dX8_exit_26 : decode cX8_exit 26 = .ok (.iaload, 1) := by decide +kernel
theorem dX8_exit_27 : decode cX8_exit 27 = .ok (.ishl, 1) := by decide +kernel
theorem dX8_exit_28 : decode cX8_exit 28 = .ok (.iastore, 1) := by decide +kernel
theorem dX8_exit_29 : decode cX8_exit 29 = .ok (.iload_n 2, 1) := by decide +kernel
theorem dX8_exit_30 : decode cX8_exit 30 = .ok (.ireturn, 1) := by decide +kernel
theorem dX8_choice_0 : decode cX8_choice 0 = .ok (.aload_n 0, 1) := by decide +kernel
theorem dX8_choice_1 : decode cX8_choice 1 = .ok (.iconst 4, 1) := by decide +kernel
theorem dX8_choice_2 : decode cX8_choice 2 = .ok (.invokevirtual 58, 3) := by decide +kernel
theorem dX8_choice_5 : decode cX8_choice 5 = .ok (.istore 4, 2) := by decide +kernel
theorem dX8_choice_7 : decode cX8_choice 7 = .ok (.aload_n 0, 1) := by decide +kernel
theorem dX8_choice_8 : decode cX8_choice 8 = .ok (.iload 4, 2) := by decide +kernel
theorem dX8_choice_10 : decode cX8_choice 10 = .ok (.iload_n 2, 1) := by decide +kernel
theorem dX8_choice_11 : decode cX8_choice 11 = .ok (.invokevirtual 61, 3) := by decide +kernel
theorem dX8_choice_14 : decode cX8_choice 14 = .ok (.aload_n 0, 1) := by decide +kernel
theorem dX8_choice_15 : decode cX8_choice 15 = .ok (.iload 4, 2) := by decide +kernel
theorem dX8_choice_17 : decode cX8_choice 17 = .ok (.iload_n 3, 1) := by decide +kernel
theorem dX8_choice_18 : decode cX8_choice 18 = .ok (.invokevirtual 61, 3) := by decide +kernel
theorem dX8_choice_21 : decode cX8_choice 21 = .ok (.aload_n 0, 1) := by decide +kernel
theorem dX8_choice_22 : decode cX8_choice 22 = .ok (.getfield 25, 3) := by decide +kernel
theorem dX8_choice_25 : decode cX8_choice 25 = .ok (.iload 4, 2) := by decide +kernel
theorem dX8_choice_27 : decode cX8_choice 27 = .ok (.iload_n 1, 1) := by decide +kernel
theorem dX8_choice_28 : decode cX8_choice 28 = .ok (.iastore, 1) := by decide +kernel
theorem dX8_choice_29 : decode cX8_choice 29 = .ok (.iload 4, 2) := by decide +kernel
theorem dX8_choice_31 : decode cX8_choice 31 = .ok (.ireturn, 1) := by decide +kernel
theorem dX8_suspend_0 : decode cX8_suspend 0 = .ok (.aload_n 0, 1) := by decide +kernel
theorem dX8_suspend_1 : decode cX8_suspend 1 = .ok (.bipush 7, 2) := by decide +kernel
theorem dX8_suspend_3 : decode cX8_suspend 3 = .ok (.iload_n 1, 1) := by decide +kernel
theorem dX8_suspend_4 : decode cX8_suspend 4 = .ok (.invokevirtual 65, 3) := by decide +kernel
theorem dX8_suspend_7 : decode cX8_suspend 7 = .ok (.istore_n 3, 1) := by decide +kernel
theorem dX8_suspend_8 : decode cX8_suspend 8 = .ok (.aload_n 0, 1) := by decide +kernel
theorem dX8_suspend_9 : decode cX8_suspend 9 = .ok (.getfield 25, 3) := by decide +kernel
theorem dX8_suspend_12 : decode cX8_suspend 12 = .ok (.iload_n 3, 1) := by decide +kernel
theorem dX8_suspend_13 : decode cX8_suspend 13 = .ok (.iload_n 2, 1) := by decide +kernel
theorem dX8_suspend_14 : decode cX8_suspend 14 = .ok (.iastore, 1) := by decide +kernel
theorem dX8_suspend_15 : decode cX8_suspend 15 = .ok (.iload_n 3, 1) := by decide +kernel
theorem dX8_suspend_16 : decode cX8_suspend 16 = .ok (.ireturn, 1) := by decide +kernel
theorem dX8_halt_0 : decode cX8_halt 0 = .ok (.aload_n 0, 1) := by decide +kernel
theorem dX8_halt_1 : decode cX8_halt 1 = .ok (.bipush 6, 2) := by decide +kernel
theorem dX8_halt_3 : decode cX8_halt 3 = .ok (.aload_n 0, 1) := by decide +kernel
theorem dX8_halt_4 : decode cX8_halt 4 = .ok (.invokevirtual 68, 3) := by decide +kernel
theorem dX8_halt_7 : decode cX8_halt 7 = .ok (.invokevirtual 65, 3) := by decide +kernel
theorem dX8_halt_10 : decode cX8_halt 10 = .ok (.ireturn, 1) := by decide +kernel
theorem dX8_sustain_0 : decode cX8_sustain 0 = .ok (.aload_n 0, 1) := by decide +kernel
theorem dX8_sustain_1 : decode cX8_sustain 1 = .ok (.iload_n 1, 1) := by decide +kernel
theorem dX8_sustain_2 : decode cX8_sustain 2 = .ok (.invokevirtual 72, 3) := by decide +kernel
theorem dX8_sustain_5 : decode cX8_sustain 5 = .ok (.istore_n 2, 1) := by decide +kernel
theorem dX8_sustain_6 : decode cX8_sustain 6 = .ok (.aload_n 0, 1) := by decide +kernel
theorem dX8_sustain_7 : decode cX8_sustain 7 = .ok (.bipush 6, 2) := by decide +kernel
theorem dX8_sustain_9 : decode cX8_sustain 9 = .ok (.aload_n 0, 1) := by decide +kernel
theorem dX8_sustain_10 : decode cX8_sustain 10 = .ok (.iconst 5, 1) := by decide +kernel
theorem dX8_sustain_11 : decode cX8_sustain 11 = .ok (.iload_n 2, 1) := by decide +kernel
theorem dX8_sustain_12 : decode cX8_sustain 12 = .ok (.aload_n 0, 1) := by decide +kernel
theorem dX8_sustain_13 : decode cX8_sustain 13 = .ok (.invokevirtual 68, 3) := by decide +kernel
theorem dX8_sustain_16 : decode cX8_sustain 16 = .ok (.invokevirtual 75, 3) := by decide +kernel
theorem dX8_sustain_19 : decode cX8_sustain 19 = .ok (.invokevirtual 65, 3) := by decide +kernel
theorem dX8_sustain_22 : decode cX8_sustain 22 = .ok (.ireturn, 1) := by decide +kernel
theorem dX8_watch_0 : decode cX8_watch 0 = .ok (.aload_n 0, 1) := by decide +kernel
theorem dX8_watch_1 : decode cX8_watch 1 = .ok (.invokevirtual 68, 3) := by decide +kernel
theorem dX8_watch_4 : decode cX8_watch 4 = .ok (.istore_n 3, 1) := by decide +kernel
theorem dX8_watch_5 : decode cX8_watch 5 = .ok (.aload_n 0, 1) := by decide +kernel
theorem dX8_watch_6 : decode cX8_watch 6 = .ok (.iload_n 1, 1) := by decide +kernel
theorem dX8_watch_7 : decode cX8_watch 7 = .ok (.aload_n 0, 1) := by decide +kernel
theorem dX8_watch_8 : decode cX8_watch 8 = .ok (.iconst 0, 1) := by decide +kernel
theorem dX8_watch_9 : decode cX8_watch 9 = .ok (.invokevirtual 79, 3) := by decide +kernel
theorem dX8_watch_12 : decode cX8_watch 12 = .ok (.aload_n 0, 1) := by decide +kernel
theorem dX8_watch_13 : decode cX8_watch 13 = .ok (.iconst 0, 1) := by decide +kernel
theorem dX8_watch_14 : decode cX8_watch 14 = .ok (.invokevirtual 58, 3) := by decide +kernel
theorem dX8_watch_17 : decode cX8_watch 17 = .ok (.invokevirtual 82, 3) := by decide +kernel
theorem dX8_watch_20 : decode cX8_watch 20 = .ok (.istore 4, 2) := by decide +kernel
theorem dX8_watch_22 : decode cX8_watch 22 = .ok (.aload_n 0, 1) := by decide +kernel
theorem dX8_watch_23 : decode cX8_watch 23 = .ok (.bipush 6, 2) := by decide +kernel
theorem dX8_watch_25 : decode cX8_watch 25 = .ok (.iload_n 2, 1) := by decide +kernel
theorem dX8_watch_26 : decode cX8_watch 26 = .ok (.ifCond .eq 14, 3) := by decide +kernel
theorem dX8_watch_29 : decode cX8_watch 29 = .ok (.aload_n 0, 1) := by decide +kernel
theorem dX8_watch_30 : decode cX8_watch 30 = .ok (.iconst 5, 1) := by decide +kernel
theorem dX8_watch_31 : decode cX8_watch 31 = .ok (.iload 4, 2) := by decide +kernel
theorem dX8_watch_33 : decode cX8_watch 33 = .ok (.iload_n 3, 1) := by decide +kernel
theorem dX8_watch_34 : decode cX8_watch 34 = .ok (.invokevirtual 75, 3) := by decide +kernel
theorem dX8_watch_37 : decode cX8_watch 37 = .ok (.goto 11, 3) := by decide +kernel
theorem dX8_watch_40 : decode cX8_watch 40 = .ok (.aload_n 0, 1) := by decide +kernel
theorem dX8_watch_41 : decode cX8_watch 41 = .ok (.iconst 5, 1) := by decide +kernel
theorem dX8_watch_42 : decode cX8_watch 42 = .ok (.iload_n 3, 1) := by decide +kernel
theorem dX8_watch_43 : decode cX8_watch 43 = .ok (.iload 4, 2) := by decide +kernel
theorem dX8_watch_45 : decode cX8_watch 45 = .ok (.invokevirtual 75, 3) := by decide +kernel
theorem dX8_watch_48 : decode cX8_watch 48 = .ok (.invokevirtual 65, 3) := by decide +kernel
theorem dX8_watch_51 : decode cX8_watch 51 = .ok (.ireturn, 1) := by decide +kernel
theorem dX8_await_0 : decode cX8_await 0 = .ok (.aload_n 0, 1) := by decide +kernel
theorem dX8_await_1 : decode cX8_await 1 = .ok (.bipush 9, 2) := by decide +kernel
theorem dX8_await_3 : decode cX8_await 3 = .ok (.aload_n 0, 1) := by decide +kernel
theorem dX8_await_4 : decode cX8_await 4 = .ok (.iload_n 1, 1) := by decide +kernel
theorem dX8_await_5 : decode cX8_await 5 = .ok (.iload_n 2, 1) := by decide +kernel
theorem dX8_await_6 : decode cX8_await 6 = .ok (.invokevirtual 85, 3) := by decide +kernel
theorem dX8_await_9 : decode cX8_await 9 = .ok (.invokevirtual 65, 3) := by decide +kernel
theorem dX8_await_12 : decode cX8_await 12 = .ok (.ireturn, 1) := by decide +kernel
theorem dX8_abort_0 : decode cX8_abort 0 = .ok (.aload_n 0, 1) := by decide +kernel
theorem dX8_abort_1 : decode cX8_abort 1 = .ok (.aload_n 0, 1) := by decide +kernel
theorem dX8_abort_2 : decode cX8_abort 2 = .ok (.iload_n 1, 1) := by decide +kernel
theorem dX8_abort_3 : decode cX8_abort 3 = .ok (.iload_n 2, 1) := by decide +kernel
theorem dX8_abort_4 : decode cX8_abort 4 = .ok (.invokevirtual 89, 3) := by decide +kernel
theorem dX8_abort_7 : decode cX8_abort 7 = .ok (.iload_n 2, 1) := by decide +kernel
theorem dX8_abort_8 : decode cX8_abort 8 = .ok (.iconst 0, 1) := by decide +kernel
theorem dX8_abort_9 : decode cX8_abort 9 = .ok (.invokevirtual 92, 3) := by decide +kernel
theorem dX8_abort_12 : decode cX8_abort 12 = .ok (.ireturn, 1) := by decide +kernel
theorem dX8_weak_0 : decode cX8_weak 0 = .ok (.aload_n 0, 1) := by decide +kernel
theorem dX8_weak_1 : decode cX8_weak 1 = .ok (.iconst 5, 1) := by decide +kernel
theorem dX8_weak_2 : decode cX8_weak 2 = .ok (.iload_n 1, 1) := by decide +kernel
theorem dX8_weak_3 : decode cX8_weak 3 = .ok (.aload_n 0, 1) := by decide +kernel
theorem dX8_weak_4 : decode cX8_weak 4 = .ok (.iconst 0, 1) := by decide +kernel
theorem dX8_weak_5 : decode cX8_weak 5 = .ok (.invokevirtual 79, 3) := by decide +kernel
theorem dX8_weak_8 : decode cX8_weak 8 = .ok (.invokevirtual 75, 3) := by decide +kernel
theorem dX8_weak_11 : decode cX8_weak 11 = .ok (.istore 4, 2) := by decide +kernel
theorem dX8_weak_13 : decode cX8_weak 13 = .ok (.aload_n 0, 1) := by decide +kernel
theorem dX8_weak_14 : decode cX8_weak 14 = .ok (.bipush 9, 2) := by decide +kernel
theorem dX8_weak_16 : decode cX8_weak 16 = .ok (.aload_n 0, 1) := by decide +kernel
theorem dX8_weak_17 : decode cX8_weak 17 = .ok (.bipush 8, 2) := by decide +kernel
theorem dX8_weak_19 : decode cX8_weak 19 = .ok (.iload 4, 2) := by decide +kernel
theorem dX8_weak_21 : decode cX8_weak 21 = .ok (.aload_n 0, 1) := by decide +kernel
theorem dX8_weak_22 : decode cX8_weak 22 = .ok (.iload_n 2, 1) := by decide +kernel
theorem dX8_weak_23 : decode cX8_weak 23 = .ok (.iload_n 3, 1) := by decide +kernel
theorem dX8_weak_24 : decode cX8_weak 24 = .ok (.invokevirtual 85, 3) := by decide +kernel
theorem dX8_weak_27 : decode cX8_weak 27 = .ok (.invokevirtual 75, 3) := by decide +kernel
theorem dX8_weak_30 : decode cX8_weak 30 = .ok (.invokevirtual 65, 3) := by decide +kernel
theorem dX8_weak_33 : decode cX8_weak 33 = .ok (.ireturn, 1) := by decide +kernel
theorem dX9_init_0 : decode cX9_init 0 = .ok (.aload_n 0, 1) := by decide +kernel
theorem dX9_init_1 : decode cX9_init 1 = .ok (.invokespecial 1, 3) := by decide +kernel
theorem dX9_init_4 : decode cX9_init 4 = .ok (.aload_n 0, 1) := by decide +kernel
theorem dX9_init_5 : decode cX9_init 5 = .ok (.sipush 640, 3) := by decide +kernel
theorem dX9_init_8 : decode cX9_init 8 = .ok (.newarray .int, 2) := by decide +kernel
theorem dX9_init_10 : decode cX9_init 10 = .ok (.putfield 9, 3) := by decide +kernel
theorem dX9_init_13 : decode cX9_init 13 = .ok (.aload_n 0, 1) := by decide +kernel
theorem dX9_init_14 : decode cX9_init 14 = .ok (.sipush 640, 3) := by decide +kernel
theorem dX9_init_17 : decode cX9_init 17 = .ok (.newarray .int, 2) := by decide +kernel
theorem dX9_init_19 : decode cX9_init 19 = .ok (.putfield 15, 3) := by decide +kernel
theorem dX9_init_22 : decode cX9_init 22 = .ok (.aload_n 0, 1) := by decide +kernel
theorem dX9_init_23 : decode cX9_init 23 = .ok (.sipush 640, 3) := by decide +kernel
theorem dX9_init_26 : decode cX9_init 26 = .ok (.newarray .int, 2) := by decide +kernel
theorem dX9_init_28 : decode cX9_init 28 = .ok (.putfield 18, 3) := by decide +kernel
theorem dX9_init_31 : decode cX9_init 31 = .ok (.aload_n 0, 1) := by decide +kernel
theorem dX9_init_32 : decode cX9_init 32 = .ok (.sipush 640, 3) := by decide +kernel
theorem dX9_init_35 : decode cX9_init 35 = .ok (.newarray .int, 2) := by decide +kernel
theorem dX9_init_37 : decode cX9_init 37 = .ok (.putfield 21, 3) := by decide +kernel
theorem dX9_init_40 : decode cX9_init 40 = .ok (.aload_n 0, 1) := by decide +kernel
theorem dX9_init_41 : decode cX9_init 41 = .ok (.sipush 640, 3) := by decide +kernel
theorem dX9_init_44 : decode cX9_init 44 = .ok (.newarray .int, 2) := by decide +kernel
theorem dX9_init_46 : decode cX9_init 46 = .ok (.putfield 24, 3) := by decide +kernel
theorem dX9_init_49 : decode cX9_init 49 = .ok (.aload_n 0, 1) := by decide +kernel
theorem dX9_init_50 : decode cX9_init 50 = .ok (.sipush 640, 3) := by decide +kernel
theorem dX9_init_53 : decode cX9_init 53 = .ok (.newarray .int, 2) := by decide +kernel
theorem dX9_init_55 : decode cX9_init 55 = .ok (.putfield 27, 3) := by decide +kernel
theorem dX9_init_58 : decode cX9_init 58 = .ok (.aload_n 0, 1) := by decide +kernel
theorem dX9_init_59 : decode cX9_init 59 = .ok (.sipush 12800, 3) := by decide +kernel
theorem dX9_init_62 : decode cX9_init 62 = .ok (.newarray .int, 2) := by decide +kernel
theorem dX9_init_64 : decode cX9_init 64 = .ok (.putfield 30, 3) := by decide +kernel
theorem dX9_init_67 : decode cX9_init 67 = .ok (.aload_n 0, 1) := by decide +kernel
theorem dX9_init_68 : decode cX9_init 68 = .ok (.aload_n 1, 1) := by decide +kernel
theorem dX9_init_69 : decode cX9_init 69 = .ok (.putfield 33, 3) := by decide +kernel
theorem dX9_init_72 : decode cX9_init 72 = .ok (.return_, 1) := by decide +kernel
theorem dX9_weave_0 : decode cX9_weave 0 = .ok (.aload_n 1, 1) := by decide +kernel
theorem dX9_weave_1 : decode cX9_weave 1 = .ok (.getfield 37, 3) := by decide +kernel
theorem dX9_weave_4 : decode cX9_weave 4 = .ok (.istore_n 2, 1) := by decide +kernel
theorem dX9_weave_5 : decode cX9_weave 5 = .ok (.aload_n 0, 1) := by decide +kernel
theorem dX9_weave_6 : decode cX9_weave 6 = .ok (.aload_n 1, 1) := by decide +kernel
theorem dX9_weave_7 : decode cX9_weave 7 = .ok (.getfield 43, 3) := by decide +kernel
theorem dX9_weave_10 : decode cX9_weave 10 = .ok (.iload_n 2, 1) := by decide +kernel
theorem dX9_weave_11 : decode cX9_weave 11 = .ok (.invokevirtual 47, 3) := by decide +kernel
theorem dX9_weave_14 : decode cX9_weave 14 = .ok (.iconst 1, 1) := by decide +kernel
theorem dX9_weave_15 : decode cX9_weave 15 = .ok (.istore_n 3, 1) := by decide +kernel
theorem dX9_weave_16 : decode cX9_weave 16 = .ok (.iconst 0, 1) := by decide +kernel
theorem dX9_weave_17 : decode cX9_weave 17 = .ok (.istore 4, 2) := by decide +kernel
theorem dX9_weave_19 : decode cX9_weave 19 = .ok (.iload 4, 2) := by decide +kernel
theorem dX9_weave_21 : decode cX9_weave 21 = .ok (.sipush 1280, 3) := by decide +kernel
theorem dX9_weave_24 : decode cX9_weave 24 = .ok (.if_icmp .ge 113, 3) := by decide +kernel
theorem dX9_weave_27 : decode cX9_weave 27 = .ok (.iload_n 2, 1) := by decide +kernel
theorem dX9_weave_28 : decode cX9_weave 28 = .ok (.ifCond .eq 109, 3) := by decide +kernel
theorem dX9_weave_31 : decode cX9_weave 31 = .ok (.iload_n 3, 1) := by decide +kernel
theorem dX9_weave_32 : decode cX9_weave 32 = .ok (.ifCond .eq 22, 3) := by decide +kernel
theorem dX9_weave_35 : decode cX9_weave 35 = .ok (.aload_n 0, 1) := by decide +kernel
theorem dX9_weave_36 : decode cX9_weave 36 = .ok (.iload_n 2, 1) := by decide +kernel
theorem dX9_weave_37 : decode cX9_weave 37 = .ok (.invokevirtual 51, 3) := by decide +kernel
theorem dX9_weave_40 : decode cX9_weave 40 = .ok (.aload_n 0, 1) := by decide +kernel
theorem dX9_weave_41 : decode cX9_weave 41 = .ok (.getfield 33, 3) := by decide +kernel
theorem dX9_weave_44 : decode cX9_weave 44 = .ok (.getfield 55, 3) := by decide +kernel
theorem dX9_weave_47 : decode cX9_weave 47 = .ok (.iload_n 2, 1) := by decide +kernel
theorem dX9_weave_48 : decode cX9_weave 48 = .ok (.iaload, 1) := by decide +kernel
theorem dX9_weave_49 : decode cX9_weave 49 = .ok (.istore 5, 2) := by decide +kernel
theorem dX9_weave_51 : decode cX9_weave 51 = .ok (.goto 57, 3) := by decide +kernel
theorem dX9_weave_54 : decode cX9_weave 54 = .ok (.aload_n 0, 1) := by decide +kernel
theorem dX9_weave_55 : decode cX9_weave 55 = .ok (.getfield 33, 3) := by decide +kernel
theorem dX9_weave_58 : decode cX9_weave 58 = .ok (.getfield 58, 3) := by decide +kernel
theorem dX9_weave_61 : decode cX9_weave 61 = .ok (.iload_n 2, 1) := by decide +kernel
theorem dX9_weave_62 : decode cX9_weave 62 = .ok (.iaload, 1) := by decide +kernel
theorem dX9_weave_63 : decode cX9_weave 63 = .ok (.bipush 8, 2) := by decide +kernel
theorem dX9_weave_65 : decode cX9_weave 65 = .ok (.if_icmp .ne 8, 3) := by decide +kernel
theorem dX9_weave_68 : decode cX9_weave 68 = .ok (.aload_n 0, 1) := by decide +kernel
theorem dX9_weave_69 : decode cX9_weave 69 = .ok (.iload_n 2, 1) := by decide +kernel
theorem dX9_weave_70 : decode cX9_weave 70 = .ok (.invokevirtual 61, 3) := by decide +kernel
theorem dX9_weave_73 : decode cX9_weave 73 = .ok (.aload_n 0, 1) := by decide +kernel
theorem dX9_weave_74 : decode cX9_weave 74 = .ok (.iload_n 2, 1) := by decide +kernel
theorem dX9_weave_75 : decode cX9_weave 75 = .ok (.invokevirtual 64, 3) := by decide +kernel
theorem dX9_weave_78 : decode cX9_weave 78 = .ok (.aload_n 0, 1) := by decide +kernel
theorem dX9_weave_79 : decode cX9_weave 79 = .ok (.getfield 33, 3) := by decide +kernel
theorem dX9_weave_82 : decode cX9_weave 82 = .ok (.getfield 67, 3) := by decide +kernel
theorem dX9_weave_85 : decode cX9_weave 85 = .ok (.iload_n 2, 1) := by decide +kernel
theorem dX9_weave_86 : decode cX9_weave 86 = .ok (.iaload, 1) := by decide +kernel
theorem dX9_weave_87 : decode cX9_weave 87 = .ok (.istore 5, 2) := by decide +kernel
theorem dX9_weave_89 : decode cX9_weave 89 = .ok (.iload 5, 2) := by decide +kernel
theorem dX9_weave_91 : decode cX9_weave 91 = .ok (.ifCond .ne 15, 3) := by decide +kernel
theorem dX9_weave_94 : decode cX9_weave 94 = .ok (.aload_n 0, 1) := by decide +kernel
theorem dX9_weave_95 : decode cX9_weave 95 = .ok (.getfield 33, 3) := by decide +kernel
theorem dX9_weave_98 : decode cX9_weave 98 = .ok (.getfield 70, 3) := by decide +kernel
theorem dX9_weave_101 : decode cX9_weave 101 = .ok (.iload_n 2, 1) := by decide +kernel
theorem dX9_weave_102 : decode cX9_weave 102 = .ok (.iaload, 1) := by decide +kernel
theorem dX9_weave_103 : decode cX9_weave 103 = .ok (.goto 4, 3) := by decide +kernel
theorem dX9_weave_106 : decode cX9_weave 106 = .ok (.iload_n 2, 1) := by decide +kernel
theorem dX9_weave_107 : decode cX9_weave 107 = .ok (.istore_n 2, 1) := by decide +kernel
theorem dX9_weave_108 : decode cX9_weave 108 = .ok (.iload 5, 2) := by decide +kernel
theorem dX9_weave_110 : decode cX9_weave 110 = .ok (.ifCond .eq 7, 3) := by decide +kernel
theorem dX9_weave_113 : decode cX9_weave 113 = .ok (.iconst 1, 1) := by decide +kernel
theorem dX9_weave_114 : decode cX9_weave 114 = .ok (.goto 4, 3) := by decide +kernel
theorem dX9_weave_117 : decode cX9_weave 117 = .ok (.iconst 0, 1) := by decide +kernel
theorem dX9_weave_118 : decode cX9_weave 118 = .ok (.istore_n 3, 1) := by decide +kernel
theorem dX9_weave_119 : decode cX9_weave 119 = .ok (.iload_n 3, 1) := by decide +kernel
theorem dX9_weave_120 : decode cX9_weave 120 = .ok (.ifCond .eq 11, 3) := by decide +kernel
theorem dX9_weave_123 : decode cX9_weave 123 = .ok (.iload 5, 2) := by decide +kernel
theorem dX9_weave_125 : decode cX9_weave 125 = .ok (.istore_n 2, 1) := by decide +kernel
theorem dX9_weave_126 : decode cX9_weave 126 = .ok (.aload_n 0, 1) := by decide +kernel
theorem dX9_weave_127 : decode cX9_weave 127 = .ok (.iload_n 2, 1) := by decide +kernel
theorem dX9_weave_128 : decode cX9_weave 128 = .ok (.invokevirtual 73, 3) := by decide +kernel
theorem dX9_weave_131 : decode cX9_weave 131 = .ok (.iinc 4 1, 3) := by decide +kernel
theorem dX9_weave_134 : decode cX9_weave 134 = .ok (.goto (-115), 3) := by decide +kernel
theorem dX9_weave_137 : decode cX9_weave 137 = .ok (.aload_n 0, 1) := by decide +kernel
theorem dX9_weave_138 : decode cX9_weave 138 = .ok (.aload_n 1, 1) := by decide +kernel
theorem dX9_weave_139 : decode cX9_weave 139 = .ok (.invokevirtual 76, 3) := by decide +kernel
theorem dX9_weave_142 : decode cX9_weave 142 = .ok (.return_, 1) := by decide +kernel
theorem dX9_begin_0 : decode cX9_begin 0 = .ok (.aload_n 0, 1) := by decide +kernel
theorem dX9_begin_1 : decode cX9_begin 1 = .ok (.aload_n 1, 1) := by decide +kernel
theorem dX9_begin_2 : decode cX9_begin 2 = .ok (.putfield 80, 3) := by decide +kernel
theorem dX9_begin_5 : decode cX9_begin 5 = .ok (.aload_n 0, 1) := by decide +kernel
theorem dX9_begin_6 : decode cX9_begin 6 = .ok (.getfield 9, 3) := by decide +kernel
theorem dX9_begin_9 : decode cX9_begin 9 = .ok (.iload_n 2, 1) := by decide +kernel
theorem dX9_begin_10 : decode cX9_begin 10 = .ok (.aload_n 0, 1) := by decide +kernel
theorem dX9_begin_11 : decode cX9_begin 11 = .ok (.getfield 80, 3) := by decide +kernel
theorem dX9_begin_14 : decode cX9_begin 14 = .ok (.getfield 81, 3) := by decide +kernel
theorem dX9_begin_17 : decode cX9_begin 17 = .ok (.iastore, 1) := by decide +kernel
theorem dX9_begin_18 : decode cX9_begin 18 = .ok (.aload_n 0, 1) := by decide +kernel
theorem dX9_begin_19 : decode cX9_begin 19 = .ok (.getfield 15, 3) := by decide +kernel
theorem dX9_begin_22 : decode cX9_begin 22 = .ok (.iload_n 2, 1) := by decide +kernel
theorem dX9_begin_23 : decode cX9_begin 23 = .ok (.aload_n 0, 1) := by decide +kernel
theorem dX9_begin_24 : decode cX9_begin 24 = .ok (.getfield 80, 3) := by decide +kernel
theorem dX9_begin_27 : decode cX9_begin 27 = .ok (.getfield 81, 3) := by decide +kernel
theorem dX9_begin_30 : decode cX9_begin 30 = .ok (.invokestatic 85, 3) := by decide +kernel
theorem dX9_begin_33 : decode cX9_begin 33 = .ok (.iastore, 1) := by decide +kernel
theorem dX9_begin_34 : decode cX9_begin 34 = .ok (.aload_n 0, 1) := by decide +kernel
theorem dX9_begin_35 : decode cX9_begin 35 = .ok (.getfield 18, 3) := by decide +kernel
theorem dX9_begin_38 : decode cX9_begin 38 = .ok (.iload_n 2, 1) := by decide +kernel
theorem dX9_begin_39 : decode cX9_begin 39 = .ok (.iconst 0, 1) := by decide +kernel
theorem dX9_begin_40 : decode cX9_begin 40 = .ok (.iastore, 1) := by decide +kernel
theorem dX9_begin_41 : decode cX9_begin 41 = .ok (.aload_n 0, 1) := by decide +kernel
theorem dX9_begin_42 : decode cX9_begin 42 = .ok (.getfield 21, 3) := by decide +kernel
theorem dX9_begin_45 : decode cX9_begin 45 = .ok (.iload_n 2, 1) := by decide +kernel
theorem dX9_begin_46 : decode cX9_begin 46 = .ok (.iconst 0, 1) := by decide +kernel
theorem dX9_begin_47 : decode cX9_begin 47 = .ok (.iastore, 1) := by decide +kernel
theorem dX9_begin_48 : decode cX9_begin 48 = .ok (.return_, 1) := by decide +kernel
theorem dX9_finish_0 : decode cX9_finish 0 = .ok (.aload_n 0, 1) := by decide +kernel
theorem dX9_finish_1 : decode cX9_finish 1 = .ok (.getfield 80, 3) := by decide +kernel
theorem dX9_finish_4 : decode cX9_finish 4 = .ok (.aload_n 0, 1) := by decide +kernel
theorem dX9_finish_5 : decode cX9_finish 5 = .ok (.getfield 30, 3) := by decide +kernel
theorem dX9_finish_8 : decode cX9_finish 8 = .ok (.aload_n 1, 1) := by decide +kernel
theorem dX9_finish_9 : decode cX9_finish 9 = .ok (.getfield 37, 3) := by decide +kernel
theorem dX9_finish_12 : decode cX9_finish 12 = .ok (.bipush 20, 2) := by decide +kernel
theorem dX9_finish_14 : decode cX9_finish 14 = .ok (.imul, 1) := by decide +kernel
theorem dX9_finish_15 : decode cX9_finish 15 = .ok (.iaload, 1) := by decide +kernel
theorem dX9_finish_16 : decode cX9_finish 16 = .ok (.putfield 89, 3) := by decide +kernel
theorem dX9_finish_19 : decode cX9_finish 19 = .ok (.iconst 0, 1) := by decide +kernel
theorem dX9_finish_20 : decode cX9_finish 20 = .ok (.istore_n 2, 1) := by decide +kernel
theorem dX9_finish_21 : decode cX9_finish 21 = .ok (.iload_n 2, 1) := by decide +kernel
theorem dX9_finish_22 : decode cX9_finish 22 = .ok (.aload_n 1, 1) := by decide +kernel
theorem dX9_finish_23 : decode cX9_finish 23 = .ok (.getfield 92, 3) := by decide +kernel
theorem dX9_finish_26 : decode cX9_finish 26 = .ok (.if_icmp .ge 45, 3) := by decide +kernel
theorem dX9_finish_29 : decode cX9_finish 29 = .ok (.aload_n 1, 1) := by decide +kernel
theorem dX9_finish_30 : decode cX9_finish 30 = .ok (.getfield 95, 3) := by decide +kernel
theorem dX9_finish_33 : decode cX9_finish 33 = .ok (.iload_n 2, 1) := by decide +kernel
theorem dX9_finish_34 : decode cX9_finish 34 = .ok (.iaload, 1) := by decide +kernel
theorem dX9_finish_35 : decode cX9_finish 35 = .ok (.bipush 30, 2) := by decide +kernel
theorem dX9_finish_37 : decode cX9_finish 37 = .ok (.if_icmp .eq 28, 3) := by decide +kernel
theorem dX9_finish_40 : decode cX9_finish 40 = .ok (.aload_n 0, 1) := by decide +kernel
theorem dX9_finish_41 : decode cX9_finish 41 = .ok (.getfield 80, 3) := by decide +kernel
theorem dX9_finish_44 : decode cX9_finish 44 = .ok (.aload_n 0, 1) := by decide +kernel
theorem dX9_finish_45 : decode cX9_finish 45 = .ok (.getfield 80, 3) := by decide +kernel
theorem dX9_finish_48 : decode cX9_finish 48 = .ok (.getfield 100, 3) := by decide +kernel
theorem dX9_finish_51 : decode cX9_finish 51 = .ok (.iload_n 2, 1) := by decide +kernel
theorem dX9_finish_52 : decode cX9_finish 52 = .ok (.iaload, 1) := by decide +kernel
theorem dX9_finish_53 : decode cX9_finish 53 = .ok (.aload_n 0, 1) := by decide +kernel
theorem dX9_finish_54 : decode cX9_finish 54 = .ok (.getfield 80, 3) := by decide +kernel
theorem dX9_finish_57 : decode cX9_finish 57 = .ok (.getfield 103, 3) := by decide +kernel
theorem dX9_finish_60 : decode cX9_finish 60 = .ok (.iload_n 2, 1) := by decide +kernel
theorem dX9_finish_61 : decode cX9_finish 61 = .ok (.iaload, 1) := by decide +kernel
theorem dX9_finish_62 : decode cX9_finish 62 = .ok (.invokevirtual 106, 3) := by decide +kernel
theorem dX9_finish_65 : decode cX9_finish 65 = .ok (.iinc 2 1, 3) := by decide +kernel
theorem dX9_finish_68 : decode cX9_finish 68 = .ok (.goto (-47), 3) := by decide +kernel
theorem dX9_finish_71 : decode cX9_finish 71 = .ok (.iconst 0, 1) := by decide +kernel
theorem dX9_finish_72 : decode cX9_finish 72 = .ok (.istore_n 2, 1) := by decide +kernel
theorem dX9_finish_73 : decode cX9_finish 73 = .ok (.iload_n 2, 1) := by decide +kernel
theorem dX9_finish_74 : decode cX9_finish 74 = .ok (.aload_n 1, 1) := by decide +kernel
theorem dX9_finish_75 : decode cX9_finish 75 = .ok (.getfield 110, 3) := by decide +kernel
theorem dX9_finish_78 : decode cX9_finish 78 = .ok (.invokevirtual 114, 3) := by decide +kernel
theorem dX9_finish_81 : decode cX9_finish 81 = .ok (.if_icmp .ge 24, 3) := by decide +kernel
theorem dX9_finish_84 : decode cX9_finish 84 = .ok (.aload_n 0, 1) := by decide +kernel
theorem dX9_finish_85 : decode cX9_finish 85 = .ok (.aload_n 1, 1) := by decide +kernel
theorem dX9_finish_86 : decode cX9_finish 86 = .ok (.getfield 110, 3) := by decide +kernel
theorem dX9_finish_89 : decode cX9_finish 89 = .ok (.iload_n 2, 1) := by decide +kernel
theorem dX9_finish_90 : decode cX9_finish 90 = .ok (.invokevirtual 120, 3) := by decide +kernel
theorem dX9_finish_93 : decode cX9_finish 93 = .ok (.checkcast 124, 3) := by decide +kernel
theorem dX9_finish_96 : decode cX9_finish 96 = .ok (.invokevirtual 126, 3) := by decide +kernel
theorem dX9_finish_99 : decode cX9_finish 99 = .ok (.iinc 2 1, 3) := by decide +kernel
theorem dX9_finish_102 : decode cX9_finish 102 = .ok (.goto (-29), 3) := by decide +kernel
theorem dX9_finish_105 : decode cX9_finish 105 = .ok (.return_, 1) := by decide +kernel
theorem dX9_tellPart_0 : decode cX9_tellPart 0 = .ok (.aload_n 1, 1) := by decide +kernel
theorem dX9_tellPart_1 : decode cX9_tellPart 1 = .ok (.getfield 130, 3) := by decide +kernel
theorem dX9_tellPart_4 : decode cX9_tellPart 4 = .ok (.istore_n 2, 1) := by decide +kernel
theorem dX9_tellPart_5 : decode cX9_tellPart 5 = .ok (.aload_n 1, 1) := by decide +kernel
theorem dX9_tellPart_6 : decode cX9_tellPart 6 = .ok (.aload_n 0, 1) := by decide +kernel
theorem dX9_tellPart_7 : decode cX9_tellPart 7 = .ok (.getfield 33, 3) := by decide +kernel
theorem dX9_tellPart_10 : decode cX9_tellPart 10 = .ok (.getfield 133, 3) := by decide +kernel
theorem dX9_tellPart_13 : decode cX9_tellPart 13 = .ok (.iload_n 2, 1) := by decide +kernel
theorem dX9_tellPart_14 : decode cX9_tellPart 14 = .ok (.iaload, 1) := by decide +kernel
theorem dX9_tellPart_15 : decode cX9_tellPart 15 = .ok (.putfield 136, 3) := by decide +kernel
theorem dX9_tellPart_18 : decode cX9_tellPart 18 = .ok (.aload_n 1, 1) := by decide +kernel
theorem dX9_tellPart_19 : decode cX9_tellPart 19 = .ok (.aload_n 0, 1) := by decide +kernel
theorem dX9_tellPart_20 : decode cX9_tellPart 20 = .ok (.getfield 9, 3) := by decide +kernel
theorem dX9_tellPart_23 : decode cX9_tellPart 23 = .ok (.iload_n 2, 1) := by decide +kernel
theorem dX9_tellPart_24 : decode cX9_tellPart 24 = .ok (.iaload, 1) := by decide +kernel
theorem dX9_tellPart_25 : decode cX9_tellPart 25 = .ok (.putfield 138, 3) := by decide +kernel
theorem dX9_tellPart_28 : decode cX9_tellPart 28 = .ok (.aload_n 1, 1) := by decide +kernel
theorem dX9_tellPart_29 : decode cX9_tellPart 29 = .ok (.aload_n 0, 1) := by decide +kernel
theorem dX9_tellPart_30 : decode cX9_tellPart 30 = .ok (.getfield 30, 3) := by decide +kernel
theorem dX9_tellPart_33 : decode cX9_tellPart 33 = .ok (.iload_n 2, 1) := by decide +kernel
theorem dX9_tellPart_34 : decode cX9_tellPart 34 = .ok (.bipush 20, 2) := by decide +kernel
theorem dX9_tellPart_36 : decode cX9_tellPart 36 = .ok (.imul, 1) := by decide +kernel
theorem dX9_tellPart_37 : decode cX9_tellPart 37 = .ok (.iaload, 1) := by decide +kernel
theorem dX9_tellPart_38 : decode cX9_tellPart 38 = .ok (.putfield 140, 3) := by decide +kernel
theorem dX9_tellPart_41 : decode cX9_tellPart 41 = .ok (.aload_n 1, 1) := by decide +kernel
theorem dX9_tellPart_42 : decode cX9_tellPart 42 = .ok (.aload_n 0, 1) := by decide +kernel
theorem dX9_tellPart_43 : decode cX9_tellPart 43 = .ok (.getfield 30, 3) := by decide +kernel
theorem dX9_tellPart_46 : decode cX9_tellPart 46 = .ok (.iload_n 2, 1) := by decide +kernel
theorem dX9_tellPart_47 : decode cX9_tellPart 47 = .ok (.bipush 20, 2) := by decide +kernel
theorem dX9_tellPart_49 : decode cX9_tellPart 49 = .ok (.imul, 1) := by decide +kernel
theorem dX9_tellPart_50 : decode cX9_tellPart 50 = .ok (.iconst 1, 1) := by decide +kernel
theorem dX9_tellPart_51 : decode cX9_tellPart 51 = .ok (.iadd, 1) := by decide +kernel
theorem dX9_tellPart_52 : decode cX9_tellPart 52 = .ok (.iaload, 1) := by decide +kernel
theorem dX9_tellPart_53 : decode cX9_tellPart 53 = .ok (.putfield 143, 3) := by decide +kernel
theorem dX9_tellPart_56 : decode cX9_tellPart 56 = .ok (.aload_n 1, 1) := by decide +kernel
theorem dX9_tellPart_57 : decode cX9_tellPart 57 = .ok (.aload_n 0, 1) := by decide +kernel
theorem dX9_tellPart_58 : decode cX9_tellPart 58 = .ok (.getfield 30, 3) := by decide +kernel
theorem dX9_tellPart_61 : decode cX9_tellPart 61 = .ok (.iload_n 2, 1) := by decide +kernel
theorem dX9_tellPart_62 : decode cX9_tellPart 62 = .ok (.bipush 20, 2) := by decide +kernel
theorem dX9_tellPart_64 : decode cX9_tellPart 64 = .ok (.imul, 1) := by decide +kernel
theorem dX9_tellPart_65 : decode cX9_tellPart 65 = .ok (.iconst 2, 1) := by decide +kernel
theorem dX9_tellPart_66 : decode cX9_tellPart 66 = .ok (.iadd, 1) := by decide +kernel
theorem dX9_tellPart_67 : decode cX9_tellPart 67 = .ok (.iaload, 1) := by decide +kernel
theorem dX9_tellPart_68 : decode cX9_tellPart 68 = .ok (.putfield 146, 3) := by decide +kernel
theorem dX9_tellPart_71 : decode cX9_tellPart 71 = .ok (.return_, 1) := by decide +kernel
theorem dX9_arrive_0 : decode cX9_arrive 0 = .ok (.aload_n 0, 1) := by decide +kernel
theorem dX9_arrive_1 : decode cX9_arrive 1 = .ok (.getfield 33, 3) := by decide +kernel
theorem dX9_arrive_4 : decode cX9_arrive 4 = .ok (.getfield 70, 3) := by decide +kernel
theorem dX9_arrive_7 : decode cX9_arrive 7 = .ok (.iload_n 1, 1) := by decide +kernel
theorem dX9_arrive_8 : decode cX9_arrive 8 = .ok (.iaload, 1) := by decide +kernel
theorem dX9_arrive_9 : decode cX9_arrive 9 = .ok (.istore_n 2, 1) := by decide +kernel
theorem dX9_arrive_10 : decode cX9_arrive 10 = .ok (.aload_n 0, 1) := by decide +kernel
theorem dX9_arrive_11 : decode cX9_arrive 11 = .ok (.getfield 33, 3) := by decide +kernel
theorem dX9_arrive_14 : decode cX9_arrive 14 = .ok (.getfield 149, 3) := by decide +kernel
theorem dX9_arrive_17 : decode cX9_arrive 17 = .ok (.iload_n 2, 1) := by decide +kernel
theorem dX9_arrive_18 : decode cX9_arrive 18 = .ok (.iaload, 1) := by decide +kernel
theorem dX9_arrive_19 : decode cX9_arrive 19 = .ok (.istore_n 3, 1) := by decide +kernel
theorem dX9_arrive_20 : decode cX9_arrive 20 = .ok (.aload_n 0, 1) := by decide +kernel
theorem dX9_arrive_21 : decode cX9_arrive 21 = .ok (.getfield 9, 3) := by decide +kernel
theorem dX9_arrive_24 : decode cX9_arrive 24 = .ok (.iload_n 1, 1) := by decide +kernel
theorem dX9_arrive_25 : decode cX9_arrive 25 = .ok (.aload_n 0, 1) := by decide +kernel
theorem dX9_arrive_26 : decode cX9_arrive 26 = .ok (.getfield 9, 3) := by decide +kernel
theorem dX9_arrive_29 : decode cX9_arrive 29 = .ok (.iload_n 2, 1) := by decide +kernel
theorem dX9_arrive_30 : decode cX9_arrive 30 = .ok (.iaload, 1) := by decide +kernel
theorem dX9_arrive_31 : decode cX9_arrive 31 = .ok (.iastore, 1) := by decide +kernel
theorem dX9_arrive_32 : decode cX9_arrive 32 = .ok (.aload_n 0, 1) := by decide +kernel
theorem dX9_arrive_33 : decode cX9_arrive 33 = .ok (.getfield 15, 3) := by decide +kernel
theorem dX9_arrive_36 : decode cX9_arrive 36 = .ok (.iload_n 1, 1) := by decide +kernel
theorem dX9_arrive_37 : decode cX9_arrive 37 = .ok (.aload_n 0, 1) := by decide +kernel
theorem dX9_arrive_38 : decode cX9_arrive 38 = .ok (.getfield 15, 3) := by decide +kernel
theorem dX9_arrive_41 : decode cX9_arrive 41 = .ok (.iload_n 2, 1) := by decide +kernel
theorem dX9_arrive_42 : decode cX9_arrive 42 = .ok (.iaload, 1) := by decide +kernel
theorem dX9_arrive_43 : decode cX9_arrive 43 = .ok (.iastore, 1) := by decide +kernel
theorem dX9_arrive_44 : decode cX9_arrive 44 = .ok (.aload_n 0, 1) := by decide +kernel
theorem dX9_arrive_45 : decode cX9_arrive 45 = .ok (.getfield 18, 3) := by decide +kernel
theorem dX9_arrive_48 : decode cX9_arrive 48 = .ok (.iload_n 1, 1) := by decide +kernel
theorem dX9_arrive_49 : decode cX9_arrive 49 = .ok (.aload_n 0, 1) := by decide +kernel
theorem dX9_arrive_50 : decode cX9_arrive 50 = .ok (.getfield 18, 3) := by decide +kernel
theorem dX9_arrive_53 : decode cX9_arrive 53 = .ok (.iload_n 2, 1) := by decide +kernel
theorem dX9_arrive_54 : decode cX9_arrive 54 = .ok (.iaload, 1) := by decide +kernel
theorem dX9_arrive_55 : decode cX9_arrive 55 = .ok (.iastore, 1) := by decide +kernel
theorem dX9_arrive_56 : decode cX9_arrive 56 = .ok (.aload_n 0, 1) := by decide +kernel
theorem dX9_arrive_57 : decode cX9_arrive 57 = .ok (.getfield 21, 3) := by decide +kernel
theorem dX9_arrive_60 : decode cX9_arrive 60 = .ok (.iload_n 1, 1) := by decide +kernel
theorem dX9_arrive_61 : decode cX9_arrive 61 = .ok (.aload_n 0, 1) := by decide +kernel
theorem dX9_arrive_62 : decode cX9_arrive 62 = .ok (.getfield 21, 3) := by decide +kernel
theorem dX9_arrive_65 : decode cX9_arrive 65 = .ok (.iload_n 2, 1) := by decide +kernel
theorem dX9_arrive_66 : decode cX9_arrive 66 = .ok (.iaload, 1) := by decide +kernel
theorem dX9_arrive_67 : decode cX9_arrive 67 = .ok (.iastore, 1) := by decide +kernel
theorem dX9_arrive_68 : decode cX9_arrive 68 = .ok (.aload_n 0, 1) := by decide +kernel
theorem dX9_arrive_69 : decode cX9_arrive 69 = .ok (.getfield 33, 3) := by decide +kernel
theorem dX9_arrive_72 : decode cX9_arrive 72 = .ok (.getfield 58, 3) := by decide +kernel
theorem dX9_arrive_75 : decode cX9_arrive 75 = .ok (.iload_n 2, 1) := by decide +kernel
theorem dX9_arrive_76 : decode cX9_arrive 76 = .ok (.iaload, 1) := by decide +kernel
theorem dX9_arrive_77 : decode cX9_arrive 77 = .ok (.tableswitch 200 4 9 #[39, 94, 112, 127, 200, 185], 39) := by decide +kernel
theorem dX9_arrive_116 : decode cX9_arrive 116 = .ok (.aload_n 0, 1) := by decide +kernel
theorem dX9_arrive_117 : decode cX9_arrive 117 = .ok (.getfield 33, 3) := by decide +kernel
theorem dX9_arrive_120 : decode cX9_arrive 120 = .ok (.getfield 55, 3) := by decide +kernel
theorem dX9_arrive_123 : decode cX9_arrive 123 = .ok (.iload_n 2, 1) := by decide +kernel
theorem dX9_arrive_124 : decode cX9_arrive 124 = .ok (.iaload, 1) := by decide +kernel
theorem dX9_arrive_125 : decode cX9_arrive 125 = .ok (.iload_n 1, 1) := by decide +kernel
theorem dX9_arrive_126 : decode cX9_arrive 126 = .ok (.if_icmp .ne 7, 3) := by decide +kernel
theorem dX9_arrive_129 : decode cX9_arrive 129 = .ok (.iconst 1, 1) := by decide +kernel
theorem dX9_arrive_130 : decode cX9_arrive 130 = .ok (.goto 4, 3) := by decide +kernel
theorem dX9_arrive_133 : decode cX9_arrive 133 = .ok (.iconst 0, 1) := by decide +kernel
theorem dX9_arrive_134 : decode cX9_arrive 134 = .ok (.istore 4, 2) := by decide +kernel
theorem dX9_arrive_136 : decode cX9_arrive 136 = .ok (.aload_n 0, 1) := by decide +kernel
theorem dX9_arrive_137 : decode cX9_arrive 137 = .ok (.getfield 9, 3) := by decide +kernel
theorem dX9_arrive_140 : decode cX9_arrive 140 = .ok (.iload_n 1, 1) := by decide +kernel
theorem dX9_arrive_141 : decode cX9_arrive 141 = .ok (.aload_n 0, 1) := by decide +kernel
theorem dX9_arrive_142 : decode cX9_arrive 142 = .ok (.getfield 80, 3) := by decide +kernel
theorem dX9_arrive_145 : decode cX9_arrive 145 = .ok (.aload_n 0, 1) := by decide +kernel
theorem dX9_arrive_146 : decode cX9_arrive 146 = .ok (.getfield 9, 3) := by decide +kernel
theorem dX9_arrive_149 : decode cX9_arrive 149 = .ok (.iload_n 2, 1) := by decide +kernel
theorem dX9_arrive_150 : decode cX9_arrive 150 = .ok (.iaload, 1) := by decide +kernel
theorem dX9_arrive_151 : decode cX9_arrive 151 = .ok (.iload 4, 2) := by decide +kernel
theorem dX9_arrive_153 : decode cX9_arrive 153 = .ok (.ifCond .eq 7, 3) := by decide +kernel
theorem dX9_arrive_156 : decode cX9_arrive 156 = .ok (.iload_n 3, 1) := by decide +kernel
theorem dX9_arrive_157 : decode cX9_arrive 157 = .ok (.goto 7, 3) := by decide +kernel
theorem dX9_arrive_160 : decode cX9_arrive 160 = .ok (.iload_n 3, 1) := by decide +kernel
theorem dX9_arrive_161 : decode cX9_arrive 161 = .ok (.invokestatic 85, 3) := by decide +kernel
theorem dX9_arrive_164 : decode cX9_arrive 164 = .ok (.invokevirtual 152, 3) := by decide +kernel
theorem dX9_arrive_167 : decode cX9_arrive 167 = .ok (.iastore, 1) := by decide +kernel
theorem dX9_arrive_168 : decode cX9_arrive 168 = .ok (.goto 109, 3) := by decide +kernel
theorem dX9_arrive_171 : decode cX9_arrive 171 = .ok (.aload_n 0, 1) := by decide +kernel
theorem dX9_arrive_172 : decode cX9_arrive 172 = .ok (.getfield 9, 3) := by decide +kernel
theorem dX9_arrive_175 : decode cX9_arrive 175 = .ok (.iload_n 1, 1) := by decide +kernel
theorem dX9_arrive_176 : decode cX9_arrive 176 = .ok (.aload_n 0, 1) := by decide +kernel
theorem dX9_arrive_177 : decode cX9_arrive 177 = .ok (.getfield 30, 3) := by decide +kernel
theorem dX9_arrive_180 : decode cX9_arrive 180 = .ok (.iload_n 2, 1) := by decide +kernel
theorem dX9_arrive_181 : decode cX9_arrive 181 = .ok (.bipush 20, 2) := by decide +kernel
theorem dX9_arrive_183 : decode cX9_arrive 183 = .ok (.imul, 1) := by decide +kernel
theorem dX9_arrive_184 : decode cX9_arrive 184 = .ok (.iaload, 1) := by decide +kernel
theorem dX9_arrive_185 : decode cX9_arrive 185 = .ok (.iastore, 1) := by decide +kernel
theorem dX9_arrive_186 : decode cX9_arrive 186 = .ok (.goto 91, 3) := by decide +kernel
theorem dX9_arrive_189 : decode cX9_arrive 189 = .ok (.aload_n 0, 1) := by decide +kernel
theorem dX9_arrive_190 : decode cX9_arrive 190 = .ok (.getfield 9, 3) := by decide +kernel
theorem dX9_arrive_193 : decode cX9_arrive 193 = .ok (.iload_n 1, 1) := by decide +kernel
theorem dX9_arrive_194 : decode cX9_arrive 194 = .ok (.aload_n 0, 1) := by decide +kernel
theorem dX9_arrive_195 : decode cX9_arrive 195 = .ok (.getfield 24, 3) := by decide +kernel
theorem dX9_arrive_198 : decode cX9_arrive 198 = .ok (.iload_n 2, 1) := by decide +kernel
theorem dX9_arrive_199 : decode cX9_arrive 199 = .ok (.iaload, 1) := by decide +kernel
theorem dX9_arrive_200 : decode cX9_arrive 200 = .ok (.iastore, 1) := by decide +kernel
theorem dX9_arrive_201 : decode cX9_arrive 201 = .ok (.goto 76, 3) := by decide +kernel
theorem dX9_arrive_204 : decode cX9_arrive 204 = .ok (.aload_n 0, 1) := by decide +kernel
theorem dX9_arrive_205 : decode cX9_arrive 205 = .ok (.iload_n 2, 1) := by decide +kernel
theorem dX9_arrive_206 : decode cX9_arrive 206 = .ok (.invokevirtual 156, 3) := by decide +kernel
theorem dX9_arrive_209 : decode cX9_arrive 209 = .ok (.istore 5, 2) := by decide +kernel
theorem dX9_arrive_211 : decode cX9_arrive 211 = .ok (.aload_n 0, 1) := by decide +kernel
theorem dX9_arrive_212 : decode cX9_arrive 212 = .ok (.getfield 15, 3) := by decide +kernel
theorem dX9_arrive_215 : decode cX9_arrive 215 = .ok (.iload_n 1, 1) := by decide +kernel
theorem dX9_arrive_216 : decode cX9_arrive 216 = .ok (.aload_n 0, 1) := by decide +kernel
theorem dX9_arrive_217 : decode cX9_arrive 217 = .ok (.getfield 80, 3) := by decide +kernel
theorem dX9_arrive_220 : decode cX9_arrive 220 = .ok (.iload 5, 2) := by decide +kernel
theorem dX9_arrive_222 : decode cX9_arrive 222 = .ok (.iload_n 3, 1) := by decide +kernel
theorem dX9_arrive_223 : decode cX9_arrive 223 = .ok (.invokestatic 85, 3) := by decide +kernel
theorem dX9_arrive_226 : decode cX9_arrive 226 = .ok (.invokevirtual 152, 3) := by decide +kernel
theorem dX9_arrive_229 : decode cX9_arrive 229 = .ok (.iastore, 1) := by decide +kernel
theorem dX9_arrive_230 : decode cX9_arrive 230 = .ok (.aload_n 0, 1) := by decide +kernel
theorem dX9_arrive_231 : decode cX9_arrive 231 = .ok (.getfield 18, 3) := by decide +kernel
theorem dX9_arrive_234 : decode cX9_arrive 234 = .ok (.iload_n 1, 1) := by decide +kernel
theorem dX9_arrive_235 : decode cX9_arrive 235 = .ok (.aload_n 0, 1) := by decide +kernel
theorem dX9_arrive_236 : decode cX9_arrive 236 = .ok (.getfield 80, 3) := by decide +kernel
theorem dX9_arrive_239 : decode cX9_arrive 239 = .ok (.aload_n 0, 1) := by decide +kernel
theorem dX9_arrive_240 : decode cX9_arrive 240 = .ok (.getfield 18, 3) := by decide +kernel
theorem dX9_arrive_243 : decode cX9_arrive 243 = .ok (.iload_n 2, 1) := by decide +kernel
theorem dX9_arrive_244 : decode cX9_arrive 244 = .ok (.iaload, 1) := by decide +kernel
theorem dX9_arrive_245 : decode cX9_arrive 245 = .ok (.aload_n 0, 1) := by decide +kernel
theorem dX9_arrive_246 : decode cX9_arrive 246 = .ok (.getfield 80, 3) := by decide +kernel
theorem dX9_arrive_249 : decode cX9_arrive 249 = .ok (.iload 5, 2) := by decide +kernel
theorem dX9_arrive_251 : decode cX9_arrive 251 = .ok (.iload_n 3, 1) := by decide +kernel
theorem dX9_arrive_252 : decode cX9_arrive 252 = .ok (.invokevirtual 152, 3) := by decide +kernel
theorem dX9_arrive_255 : decode cX9_arrive 255 = .ok (.invokevirtual 159, 3) := by decide +kernel
theorem dX9_arrive_258 : decode cX9_arrive 258 = .ok (.iastore, 1) := by decide +kernel
theorem dX9_arrive_259 : decode cX9_arrive 259 = .ok (.goto 18, 3) := by decide +kernel
theorem dX9_arrive_262 : decode cX9_arrive 262 = .ok (.aload_n 0, 1) := by decide +kernel
theorem dX9_arrive_263 : decode cX9_arrive 263 = .ok (.getfield 21, 3) := by decide +kernel
theorem dX9_arrive_266 : decode cX9_arrive 266 = .ok (.iload_n 1, 1) := by decide +kernel
theorem dX9_arrive_267 : decode cX9_arrive 267 = .ok (.aload_n 0, 1) := by decide +kernel
theorem dX9_arrive_268 : decode cX9_arrive 268 = .ok (.getfield 24, 3) := by decide +kernel
theorem dX9_arrive_271 : decode cX9_arrive 271 = .ok (.iload_n 2, 1) := by decide +kernel
theorem dX9_arrive_272 : decode cX9_arrive 272 = .ok (.iaload, 1) := by decide +kernel
theorem dX9_arrive_273 : decode cX9_arrive 273 = .ok (.iastore, 1) := by decide +kernel
theorem dX9_arrive_274 : decode cX9_arrive 274 = .ok (.goto 3, 3) := by decide +kernel
theorem dX9_arrive_277 : decode cX9_arrive 277 = .ok (.return_, 1) := by decide +kernel
theorem dX9_resumed_0 : decode cX9_resumed 0 = .ok (.aload_n 0, 1) := by decide +kernel
theorem dX9_resumed_1 : decode cX9_resumed 1 = .ok (.getfield 80, 3) := by decide +kernel
theorem dX9_resumed_4 : decode cX9_resumed 4 = .ok (.aload_n 0, 1) := by decide +kernel
theorem dX9_resumed_5 : decode cX9_resumed 5 = .ok (.getfield 15, 3) := by decide +kernel
theorem dX9_resumed_8 : decode cX9_resumed 8 = .ok (.iload_n 1, 1) := by decide +kernel
theorem dX9_resumed_9 : decode cX9_resumed 9 = .ok (.iaload, 1) := by decide +kernel
theorem dX9_resumed_10 : decode cX9_resumed 10 = .ok (.aload_n 0, 1) := by decide +kernel
theorem dX9_resumed_11 : decode cX9_resumed 11 = .ok (.getfield 80, 3) := by decide +kernel
theorem dX9_resumed_14 : decode cX9_resumed 14 = .ok (.aload_n 0, 1) := by decide +kernel
theorem dX9_resumed_15 : decode cX9_resumed 15 = .ok (.getfield 33, 3) := by decide +kernel
theorem dX9_resumed_18 : decode cX9_resumed 18 = .ok (.getfield 133, 3) := by decide +kernel
theorem dX9_resumed_21 : decode cX9_resumed 21 = .ok (.iload_n 1, 1) := by decide +kernel
theorem dX9_resumed_22 : decode cX9_resumed 22 = .ok (.iaload, 1) := by decide +kernel
theorem dX9_resumed_23 : decode cX9_resumed 23 = .ok (.invokevirtual 162, 3) := by decide +kernel
theorem dX9_resumed_26 : decode cX9_resumed 26 = .ok (.invokevirtual 152, 3) := by decide +kernel
theorem dX9_resumed_29 : decode cX9_resumed 29 = .ok (.ireturn, 1) := by decide +kernel
theorem dX9_enter_0 : decode cX9_enter 0 = .ok (.aload_n 0, 1) := by decide +kernel
theorem dX9_enter_1 : decode cX9_enter 1 = .ok (.getfield 30, 3) := by decide +kernel
theorem dX9_enter_4 : decode cX9_enter 4 = .ok (.iload_n 1, 1) := by decide +kernel
theorem dX9_enter_5 : decode cX9_enter 5 = .ok (.bipush 20, 2) := by decide +kernel
theorem dX9_enter_7 : decode cX9_enter 7 = .ok (.imul, 1) := by decide +kernel
theorem dX9_enter_8 : decode cX9_enter 8 = .ok (.iload_n 1, 1) := by decide +kernel
theorem dX9_enter_9 : decode cX9_enter 9 = .ok (.bipush 20, 2) := by decide +kernel
theorem dX9_enter_11 : decode cX9_enter 11 = .ok (.imul, 1) := by decide +kernel
theorem dX9_enter_12 : decode cX9_enter 12 = .ok (.bipush 20, 2) := by decide +kernel
theorem dX9_enter_14 : decode cX9_enter 14 = .ok (.iadd, 1) := by decide +kernel
theorem dX9_enter_15 : decode cX9_enter 15 = .ok (.iconst 0, 1) := by decide +kernel
theorem dX9_enter_16 : decode cX9_enter 16 = .ok (.invokestatic 165, 3) := by decide +kernel
theorem dX9_enter_19 : decode cX9_enter 19 = .ok (.aload_n 0, 1) := by decide +kernel
theorem dX9_enter_20 : decode cX9_enter 20 = .ok (.getfield 33, 3) := by decide +kernel
theorem dX9_enter_23 : decode cX9_enter 23 = .ok (.getfield 171, 3) := by decide +kernel
theorem dX9_enter_26 : decode cX9_enter 26 = .ok (.iload_n 1, 1) := by decide +kernel
theorem dX9_enter_27 : decode cX9_enter 27 = .ok (.iaload, 1) := by decide +kernel
theorem dX9_enter_28 : decode cX9_enter 28 = .ok (.istore_n 2, 1) := by decide +kernel
theorem dX9_enter_29 : decode cX9_enter 29 = .ok (.aload_n 0, 1) := by decide +kernel
theorem dX9_enter_30 : decode cX9_enter 30 = .ok (.getfield 33, 3) := by decide +kernel
theorem dX9_enter_33 : decode cX9_enter 33 = .ok (.getfield 58, 3) := by decide +kernel
theorem dX9_enter_36 : decode cX9_enter 36 = .ok (.iload_n 1, 1) := by decide +kernel
theorem dX9_enter_37 : decode cX9_enter 37 = .ok (.iaload, 1) := by decide +kernel
theorem dX9_enter_38 : decode cX9_enter 38 = .ok (.tableswitch 217 0 9 #[183, 54, 114, 163, 217, 183, 201, 217, 217, 201], 54) := by decide +kernel
theorem dX9_enter_92 : decode cX9_enter 92 = .ok (.aload_n 0, 1) := by decide +kernel
theorem dX9_enter_93 : decode cX9_enter 93 = .ok (.getfield 80, 3) := by decide +kernel
theorem dX9_enter_96 : decode cX9_enter 96 = .ok (.iload_n 2, 1) := by decide +kernel
theorem dX9_enter_97 : decode cX9_enter 97 = .ok (.aload_n 0, 1) := by decide +kernel
theorem dX9_enter_98 : decode cX9_enter 98 = .ok (.getfield 9, 3) := by decide +kernel
theorem dX9_enter_101 : decode cX9_enter 101 = .ok (.iload_n 1, 1) := by decide +kernel
theorem dX9_enter_102 : decode cX9_enter 102 = .ok (.iaload, 1) := by decide +kernel
theorem dX9_enter_103 : decode cX9_enter 103 = .ok (.aload_n 0, 1) := by decide +kernel
theorem dX9_enter_104 : decode cX9_enter 104 = .ok (.getfield 18, 3) := by decide +kernel
theorem dX9_enter_107 : decode cX9_enter 107 = .ok (.iload_n 1, 1) := by decide +kernel
theorem dX9_enter_108 : decode cX9_enter 108 = .ok (.iaload, 1) := by decide +kernel
theorem dX9_enter_109 : decode cX9_enter 109 = .ok (.aload_n 0, 1) := by decide +kernel
theorem dX9_enter_110 : decode cX9_enter 110 = .ok (.getfield 21, 3) := by decide +kernel
theorem dX9_enter_113 : decode cX9_enter 113 = .ok (.iload_n 1, 1) := by decide +kernel
theorem dX9_enter_114 : decode cX9_enter 114 = .ok (.iaload, 1) := by decide +kernel
theorem dX9_enter_115 : decode cX9_enter 115 = .ok (.invokevirtual 174, 3) := by decide +kernel
theorem dX9_enter_118 : decode cX9_enter 118 = .ok (.aload_n 0, 1) := by decide +kernel
theorem dX9_enter_119 : decode cX9_enter 119 = .ok (.getfield 30, 3) := by decide +kernel
theorem dX9_enter_122 : decode cX9_enter 122 = .ok (.iload_n 1, 1) := by decide +kernel
theorem dX9_enter_123 : decode cX9_enter 123 = .ok (.bipush 20, 2) := by decide +kernel
theorem dX9_enter_125 : decode cX9_enter 125 = .ok (.imul, 1) := by decide +kernel
theorem dX9_enter_126 : decode cX9_enter 126 = .ok (.aload_n 0, 1) := by decide +kernel
theorem dX9_enter_127 : decode cX9_enter 127 = .ok (.iload_n 1, 1) := by decide +kernel
theorem dX9_enter_128 : decode cX9_enter 128 = .ok (.invokevirtual 156, 3) := by decide +kernel
theorem dX9_enter_131 : decode cX9_enter 131 = .ok (.iastore, 1) := by decide +kernel
theorem dX9_enter_132 : decode cX9_enter 132 = .ok (.aload_n 0, 1) := by decide +kernel
theorem dX9_enter_133 : decode cX9_enter 133 = .ok (.getfield 30, 3) := by decide +kernel
theorem dX9_enter_136 : decode cX9_enter 136 = .ok (.iload_n 1, 1) := by decide +kernel
theorem dX9_enter_137 : decode cX9_enter 137 = .ok (.bipush 20, 2) := by decide +kernel
theorem dX9_enter_139 : decode cX9_enter 139 = .ok (.imul, 1) := by decide +kernel
theorem dX9_enter_140 : decode cX9_enter 140 = .ok (.iconst 1, 1) := by decide +kernel
theorem dX9_enter_141 : decode cX9_enter 141 = .ok (.iadd, 1) := by decide +kernel
theorem dX9_enter_142 : decode cX9_enter 142 = .ok (.aload_n 0, 1) := by decide +kernel
theorem dX9_enter_143 : decode cX9_enter 143 = .ok (.getfield 9, 3) := by decide +kernel
theorem dX9_enter_146 : decode cX9_enter 146 = .ok (.iload_n 1, 1) := by decide +kernel
theorem dX9_enter_147 : decode cX9_enter 147 = .ok (.iaload, 1) := by decide +kernel
theorem dX9_enter_148 : decode cX9_enter 148 = .ok (.iastore, 1) := by decide +kernel
theorem dX9_enter_149 : decode cX9_enter 149 = .ok (.goto 106, 3) := by decide +kernel
theorem dX9_enter_152 : decode cX9_enter 152 = .ok (.aload_n 0, 1) := by decide +kernel
theorem dX9_enter_153 : decode cX9_enter 153 = .ok (.getfield 80, 3) := by decide +kernel
theorem dX9_enter_156 : decode cX9_enter 156 = .ok (.getfield 103, 3) := by decide +kernel
theorem dX9_enter_159 : decode cX9_enter 159 = .ok (.iload_n 2, 1) := by decide +kernel
theorem dX9_enter_160 : decode cX9_enter 160 = .ok (.aload_n 0, 1) := by decide +kernel
theorem dX9_enter_161 : decode cX9_enter 161 = .ok (.getfield 80, 3) := by decide +kernel
theorem dX9_enter_164 : decode cX9_enter 164 = .ok (.aload_n 0, 1) := by decide +kernel
theorem dX9_enter_165 : decode cX9_enter 165 = .ok (.getfield 80, 3) := by decide +kernel
theorem dX9_enter_168 : decode cX9_enter 168 = .ok (.getfield 103, 3) := by decide +kernel
theorem dX9_enter_171 : decode cX9_enter 171 = .ok (.iload_n 2, 1) := by decide +kernel
theorem dX9_enter_172 : decode cX9_enter 172 = .ok (.iaload, 1) := by decide +kernel
theorem dX9_enter_173 : decode cX9_enter 173 = .ok (.aload_n 0, 1) := by decide +kernel
theorem dX9_enter_174 : decode cX9_enter 174 = .ok (.getfield 9, 3) := by decide +kernel
theorem dX9_enter_177 : decode cX9_enter 177 = .ok (.iload_n 1, 1) := by decide +kernel
theorem dX9_enter_178 : decode cX9_enter 178 = .ok (.iaload, 1) := by decide +kernel
theorem dX9_enter_179 : decode cX9_enter 179 = .ok (.invokevirtual 159, 3) := by decide +kernel
theorem dX9_enter_182 : decode cX9_enter 182 = .ok (.iastore, 1) := by decide +kernel
theorem dX9_enter_183 : decode cX9_enter 183 = .ok (.aload_n 0, 1) := by decide +kernel
theorem dX9_enter_184 : decode cX9_enter 184 = .ok (.getfield 30, 3) := by decide +kernel
theorem dX9_enter_187 : decode cX9_enter 187 = .ok (.iload_n 1, 1) := by decide +kernel
theorem dX9_enter_188 : decode cX9_enter 188 = .ok (.bipush 20, 2) := by decide +kernel
theorem dX9_enter_190 : decode cX9_enter 190 = .ok (.imul, 1) := by decide +kernel
theorem dX9_enter_191 : decode cX9_enter 191 = .ok (.aload_n 0, 1) := by decide +kernel
theorem dX9_enter_192 : decode cX9_enter 192 = .ok (.getfield 9, 3) := by decide +kernel
theorem dX9_enter_195 : decode cX9_enter 195 = .ok (.iload_n 1, 1) := by decide +kernel
theorem dX9_enter_196 : decode cX9_enter 196 = .ok (.iaload, 1) := by decide +kernel
theorem dX9_enter_197 : decode cX9_enter 197 = .ok (.iastore, 1) := by decide +kernel
theorem dX9_enter_198 : decode cX9_enter 198 = .ok (.goto 57, 3) := by decide +kernel
theorem dX9_enter_201 : decode cX9_enter 201 = .ok (.aload_n 0, 1) := by decide +kernel
theorem dX9_enter_202 : decode cX9_enter 202 = .ok (.getfield 30, 3) := by decide +kernel
theorem dX9_enter_205 : decode cX9_enter 205 = .ok (.iload_n 1, 1) := by decide +kernel
theorem dX9_enter_206 : decode cX9_enter 206 = .ok (.bipush 20, 2) := by decide +kernel
theorem dX9_enter_208 : decode cX9_enter 208 = .ok (.imul, 1) := by decide +kernel
theorem dX9_enter_209 : decode cX9_enter 209 = .ok (.iload_n 2, 1) := by decide +kernel
theorem dX9_enter_210 : decode cX9_enter 210 = .ok (.iadd, 1) := by decide +kernel
theorem dX9_enter_211 : decode cX9_enter 211 = .ok (.aload_n 0, 1) := by decide +kernel
theorem dX9_enter_212 : decode cX9_enter 212 = .ok (.getfield 9, 3) := by decide +kernel
theorem dX9_enter_215 : decode cX9_enter 215 = .ok (.iload_n 1, 1) := by decide +kernel
theorem dX9_enter_216 : decode cX9_enter 216 = .ok (.iaload, 1) := by decide +kernel
theorem dX9_enter_217 : decode cX9_enter 217 = .ok (.iastore, 1) := by decide +kernel
theorem dX9_enter_218 : decode cX9_enter 218 = .ok (.goto 37, 3) := by decide +kernel
theorem dX9_enter_221 : decode cX9_enter 221 = .ok (.aload_n 0, 1) := by decide +kernel
theorem dX9_enter_222 : decode cX9_enter 222 = .ok (.getfield 30, 3) := by decide +kernel
theorem dX9_enter_225 : decode cX9_enter 225 = .ok (.iload_n 1, 1) := by decide +kernel
theorem dX9_enter_226 : decode cX9_enter 226 = .ok (.bipush 20, 2) := by decide +kernel
theorem dX9_enter_228 : decode cX9_enter 228 = .ok (.imul, 1) := by decide +kernel
theorem dX9_enter_229 : decode cX9_enter 229 = .ok (.aload_n 0, 1) := by decide +kernel
theorem dX9_enter_230 : decode cX9_enter 230 = .ok (.getfield 9, 3) := by decide +kernel
theorem dX9_enter_233 : decode cX9_enter 233 = .ok (.iload_n 1, 1) := by decide +kernel
theorem dX9_enter_234 : decode cX9_enter 234 = .ok (.iaload, 1) := by decide +kernel
theorem dX9_enter_235 : decode cX9_enter 235 = .ok (.iastore, 1) := by decide +kernel
theorem dX9_enter_236 : decode cX9_enter 236 = .ok (.goto 19, 3) := by decide +kernel
theorem dX9_enter_239 : decode cX9_enter 239 = .ok (.aload_n 0, 1) := by decide +kernel
theorem dX9_enter_240 : decode cX9_enter 240 = .ok (.getfield 24, 3) := by decide +kernel
theorem dX9_enter_243 : decode cX9_enter 243 = .ok (.iload_n 1, 1) := by decide +kernel
theorem dX9_enter_244 : decode cX9_enter 244 = .ok (.aload_n 0, 1) := by decide +kernel
theorem dX9_enter_245 : decode cX9_enter 245 = .ok (.getfield 80, 3) := by decide +kernel
theorem dX9_enter_248 : decode cX9_enter 248 = .ok (.invokevirtual 178, 3) := by decide +kernel
theorem dX9_enter_251 : decode cX9_enter 251 = .ok (.iastore, 1) := by decide +kernel
theorem dX9_enter_252 : decode cX9_enter 252 = .ok (.goto 3, 3) := by decide +kernel
theorem dX9_enter_255 : decode cX9_enter 255 = .ok (.return_, 1) := by decide +kernel
theorem dX9_leave_0 : decode cX9_leave 0 = .ok (.aload_n 0, 1) := by decide +kernel
theorem dX9_leave_1 : decode cX9_leave 1 = .ok (.getfield 33, 3) := by decide +kernel
theorem dX9_leave_4 : decode cX9_leave 4 = .ok (.getfield 70, 3) := by decide +kernel
theorem dX9_leave_7 : decode cX9_leave 7 = .ok (.iload_n 1, 1) := by decide +kernel
theorem dX9_leave_8 : decode cX9_leave 8 = .ok (.iaload, 1) := by decide +kernel
theorem dX9_leave_9 : decode cX9_leave 9 = .ok (.istore_n 2, 1) := by decide +kernel
theorem dX9_leave_10 : decode cX9_leave 10 = .ok (.iload_n 1, 1) := by decide +kernel
theorem dX9_leave_11 : decode cX9_leave 11 = .ok (.bipush 20, 2) := by decide +kernel
theorem dX9_leave_13 : decode cX9_leave 13 = .ok (.imul, 1) := by decide +kernel
theorem dX9_leave_14 : decode cX9_leave 14 = .ok (.istore_n 3, 1) := by decide +kernel
theorem dX9_leave_15 : decode cX9_leave 15 = .ok (.iload_n 2, 1) := by decide +kernel
theorem dX9_leave_16 : decode cX9_leave 16 = .ok (.bipush 20, 2) := by decide +kernel
theorem dX9_leave_18 : decode cX9_leave 18 = .ok (.imul, 1) := by decide +kernel
theorem dX9_leave_19 : decode cX9_leave 19 = .ok (.istore 4, 2) := by decide +kernel
theorem dX9_leave_21 : decode cX9_leave 21 = .ok (.aload_n 0, 1) := by decide +kernel
theorem dX9_leave_22 : decode cX9_leave 22 = .ok (.getfield 33, 3) := by decide +kernel
theorem dX9_leave_25 : decode cX9_leave 25 = .ok (.getfield 58, 3) := by decide +kernel
theorem dX9_leave_28 : decode cX9_leave 28 = .ok (.iload_n 2, 1) := by decide +kernel
theorem dX9_leave_29 : decode cX9_leave 29 = .ok (.iaload, 1) := by decide +kernel
theorem dX9_leave_30 : decode cX9_leave 30 = .ok (.tableswitch 185 4 9 #[56, 38, 66, 116, 185, 176], 38) := by decide +kernel
theorem dX9_leave_68 : decode cX9_leave 68 = .ok (.aload_n 0, 1) := by decide +kernel
theorem dX9_leave_69 : decode cX9_leave 69 = .ok (.getfield 30, 3) := by decide +kernel
theorem dX9_leave_72 : decode cX9_leave 72 = .ok (.iload 4, 2) := by decide +kernel
theorem dX9_leave_74 : decode cX9_leave 74 = .ok (.iconst 0, 1) := by decide +kernel
theorem dX9_leave_75 : decode cX9_leave 75 = .ok (.iastore, 1) := by decide +kernel
theorem dX9_leave_76 : decode cX9_leave 76 = .ok (.aload_n 0, 1) := by decide +kernel
theorem dX9_leave_77 : decode cX9_leave 77 = .ok (.iload 4, 2) := by decide +kernel
theorem dX9_leave_79 : decode cX9_leave 79 = .ok (.iload_n 3, 1) := by decide +kernel
theorem dX9_leave_80 : decode cX9_leave 80 = .ok (.invokevirtual 181, 3) := by decide +kernel
theorem dX9_leave_83 : decode cX9_leave 83 = .ok (.goto 132, 3) := by decide +kernel
theorem dX9_leave_86 : decode cX9_leave 86 = .ok (.aload_n 0, 1) := by decide +kernel
theorem dX9_leave_87 : decode cX9_leave 87 = .ok (.iload 4, 2) := by decide +kernel
theorem dX9_leave_89 : decode cX9_leave 89 = .ok (.iload_n 3, 1) := by decide +kernel
theorem dX9_leave_90 : decode cX9_leave 90 = .ok (.invokevirtual 181, 3) := by decide +kernel
theorem dX9_leave_93 : decode cX9_leave 93 = .ok (.goto 122, 3) := by decide +kernel
theorem dX9_leave_96 : decode cX9_leave 96 = .ok (.aload_n 0, 1) := by decide +kernel
theorem dX9_leave_97 : decode cX9_leave 97 = .ok (.getfield 80, 3) := by decide +kernel
theorem dX9_leave_100 : decode cX9_leave 100 = .ok (.aload_n 0, 1) := by decide +kernel
theorem dX9_leave_101 : decode cX9_leave 101 = .ok (.getfield 24, 3) := by decide +kernel
theorem dX9_leave_104 : decode cX9_leave 104 = .ok (.iload_n 2, 1) := by decide +kernel
theorem dX9_leave_105 : decode cX9_leave 105 = .ok (.iaload, 1) := by decide +kernel
theorem dX9_leave_106 : decode cX9_leave 106 = .ok (.aload_n 0, 1) := by decide +kernel
theorem dX9_leave_107 : decode cX9_leave 107 = .ok (.getfield 80, 3) := by decide +kernel
theorem dX9_leave_110 : decode cX9_leave 110 = .ok (.aload_n 0, 1) := by decide +kernel
theorem dX9_leave_111 : decode cX9_leave 111 = .ok (.getfield 9, 3) := by decide +kernel
theorem dX9_leave_114 : decode cX9_leave 114 = .ok (.iload_n 2, 1) := by decide +kernel
theorem dX9_leave_115 : decode cX9_leave 115 = .ok (.iaload, 1) := by decide +kernel
theorem dX9_leave_116 : decode cX9_leave 116 = .ok (.aload_n 0, 1) := by decide +kernel
theorem dX9_leave_117 : decode cX9_leave 117 = .ok (.getfield 30, 3) := by decide +kernel
theorem dX9_leave_120 : decode cX9_leave 120 = .ok (.iload_n 3, 1) := by decide +kernel
theorem dX9_leave_121 : decode cX9_leave 121 = .ok (.iaload, 1) := by decide +kernel
theorem dX9_leave_122 : decode cX9_leave 122 = .ok (.invokevirtual 159, 3) := by decide +kernel
theorem dX9_leave_125 : decode cX9_leave 125 = .ok (.invokevirtual 106, 3) := by decide +kernel
theorem dX9_leave_128 : decode cX9_leave 128 = .ok (.aload_n 0, 1) := by decide +kernel
theorem dX9_leave_129 : decode cX9_leave 129 = .ok (.iload 4, 2) := by decide +kernel
theorem dX9_leave_131 : decode cX9_leave 131 = .ok (.iload_n 3, 1) := by decide +kernel
theorem dX9_leave_132 : decode cX9_leave 132 = .ok (.invokevirtual 181, 3) := by decide +kernel
theorem dX9_leave_135 : decode cX9_leave 135 = .ok (.aload_n 0, 1) := by decide +kernel
theorem dX9_leave_136 : decode cX9_leave 136 = .ok (.getfield 30, 3) := by decide +kernel
theorem dX9_leave_139 : decode cX9_leave 139 = .ok (.iload 4, 2) := by decide +kernel
theorem dX9_leave_141 : decode cX9_leave 141 = .ok (.iconst 0, 1) := by decide +kernel
theorem dX9_leave_142 : decode cX9_leave 142 = .ok (.iastore, 1) := by decide +kernel
theorem dX9_leave_143 : decode cX9_leave 143 = .ok (.goto 72, 3) := by decide +kernel
theorem dX9_leave_146 : decode cX9_leave 146 = .ok (.aload_n 0, 1) := by decide +kernel
theorem dX9_leave_147 : decode cX9_leave 147 = .ok (.iload 4, 2) := by decide +kernel
theorem dX9_leave_149 : decode cX9_leave 149 = .ok (.iload_n 3, 1) := by decide +kernel
theorem dX9_leave_150 : decode cX9_leave 150 = .ok (.invokevirtual 181, 3) := by decide +kernel
theorem dX9_leave_153 : decode cX9_leave 153 = .ok (.aload_n 0, 1) := by decide +kernel
theorem dX9_leave_154 : decode cX9_leave 154 = .ok (.getfield 80, 3) := by decide +kernel
theorem dX9_leave_157 : decode cX9_leave 157 = .ok (.aload_n 0, 1) := by decide +kernel
theorem dX9_leave_158 : decode cX9_leave 158 = .ok (.iload_n 2, 1) := by decide +kernel
theorem dX9_leave_159 : decode cX9_leave 159 = .ok (.invokevirtual 156, 3) := by decide +kernel
theorem dX9_leave_162 : decode cX9_leave 162 = .ok (.aload_n 0, 1) := by decide +kernel
theorem dX9_leave_163 : decode cX9_leave 163 = .ok (.getfield 33, 3) := by decide +kernel
theorem dX9_leave_166 : decode cX9_leave 166 = .ok (.getfield 149, 3) := by decide +kernel
theorem dX9_leave_169 : decode cX9_leave 169 = .ok (.iload_n 2, 1) := by decide +kernel
theorem dX9_leave_170 : decode cX9_leave 170 = .ok (.iaload, 1) := by decide +kernel
theorem dX9_leave_171 : decode cX9_leave 171 = .ok (.invokevirtual 152, 3) := by decide +kernel
theorem dX9_leave_174 : decode cX9_leave 174 = .ok (.istore 5, 2) := by decide +kernel
theorem dX9_leave_176 : decode cX9_leave 176 = .ok (.aload_n 0, 1) := by decide +kernel
theorem dX9_leave_177 : decode cX9_leave 177 = .ok (.getfield 30, 3) := by decide +kernel
theorem dX9_leave_180 : decode cX9_leave 180 = .ok (.iload 4, 2) := by decide +kernel
theorem dX9_leave_182 : decode cX9_leave 182 = .ok (.iconst 1, 1) := by decide +kernel
theorem dX9_leave_183 : decode cX9_leave 183 = .ok (.iadd, 1) := by decide +kernel
theorem dX9_leave_184 : decode cX9_leave 184 = .ok (.aload_n 0, 1) := by decide +kernel
theorem dX9_leave_185 : decode cX9_leave 185 = .ok (.getfield 80, 3) := by decide +kernel
theorem dX9_leave_188 : decode cX9_leave 188 = .ok (.aload_n 0, 1) := by decide +kernel
theorem dX9_leave_189 : decode cX9_leave 189 = .ok (.getfield 30, 3) := by decide +kernel
theorem dX9_leave_192 : decode cX9_leave 192 = .ok (.iload 4, 2) := by decide +kernel
theorem dX9_leave_194 : decode cX9_leave 194 = .ok (.iconst 1, 1) := by decide +kernel
theorem dX9_leave_195 : decode cX9_leave 195 = .ok (.iadd, 1) := by decide +kernel
theorem dX9_leave_196 : decode cX9_leave 196 = .ok (.iaload, 1) := by decide +kernel
theorem dX9_leave_197 : decode cX9_leave 197 = .ok (.iload 5, 2) := by decide +kernel
theorem dX9_leave_199 : decode cX9_leave 199 = .ok (.invokevirtual 159, 3) := by decide +kernel
theorem dX9_leave_202 : decode cX9_leave 202 = .ok (.iastore, 1) := by decide +kernel
theorem dX9_leave_203 : decode cX9_leave 203 = .ok (.goto 12, 3) := by decide +kernel
theorem dX9_leave_206 : decode cX9_leave 206 = .ok (.aload_n 0, 1) := by decide +kernel
theorem dX9_leave_207 : decode cX9_leave 207 = .ok (.iload_n 2, 1) := by decide +kernel
theorem dX9_leave_208 : decode cX9_leave 208 = .ok (.iload_n 3, 1) := by decide +kernel
theorem dX9_leave_209 : decode cX9_leave 209 = .ok (.invokevirtual 184, 3) := by decide +kernel
theorem dX9_leave_212 : decode cX9_leave 212 = .ok (.goto 3, 3) := by decide +kernel
theorem dX9_leave_215 : decode cX9_leave 215 = .ok (.return_, 1) := by decide +kernel
theorem dX9_orAll_0 : decode cX9_orAll 0 = .ok (.iconst 0, 1) := by decide +kernel
theorem dX9_orAll_1 : decode cX9_orAll 1 = .ok (.istore_n 3, 1) := by decide +kernel
theorem dX9_orAll_2 : decode cX9_orAll 2 = .ok (.iload_n 3, 1) := by decide +kernel
theorem dX9_orAll_3 : decode cX9_orAll 3 = .ok (.bipush 20, 2) := by decide +kernel
theorem dX9_orAll_5 : decode cX9_orAll 5 = .ok (.if_icmp .ge 40, 3) := by decide +kernel
theorem dX9_orAll_8 : decode cX9_orAll 8 = .ok (.aload_n 0, 1) := by decide +kernel
theorem dX9_orAll_9 : decode cX9_orAll 9 = .ok (.getfield 30, 3) := by decide +kernel
theorem dX9_orAll_12 : decode cX9_orAll 12 = .ok (.iload_n 1, 1) := by decide +kernel
theorem dX9_orAll_13 : decode cX9_orAll 13 = .ok (.iload_n 3, 1) := by decide +kernel
theorem dX9_orAll_14 : decode cX9_orAll 14 = .ok (.iadd, 1) := by decide +kernel
theorem dX9_orAll_15 : decode cX9_orAll 15 = .ok (.aload_n 0, 1) := by decide +kernel
theorem dX9_orAll_16 : decode cX9_orAll 16 = .ok (.getfield 80, 3) := by decide +kernel
theorem dX9_orAll_19 : decode cX9_orAll 19 = .ok (.aload_n 0, 1) := by decide +kernel
theorem dX9_orAll_20 : decode cX9_orAll 20 = .ok (.getfield 30, 3) := by decide +kernel
theorem dX9_orAll_23 : decode cX9_orAll 23 = .ok (.iload_n 1, 1) := by decide +kernel
theorem dX9_orAll_24 : decode cX9_orAll 24 = .ok (.iload_n 3, 1) := by decide +kernel
theorem dX9_orAll_25 : decode cX9_orAll 25 = .ok (.iadd, 1) := by decide +kernel
theorem dX9_orAll_26 : decode cX9_orAll 26 = .ok (.iaload, 1) := by decide +kernel
theorem dX9_orAll_27 : decode cX9_orAll 27 = .ok (.aload_n 0, 1) := by decide +kernel
theorem dX9_orAll_28 : decode cX9_orAll 28 = .ok (.getfield 30, 3) := by decide +kernel
theorem dX9_orAll_31 : decode cX9_orAll 31 = .ok (.iload_n 2, 1) := by decide +kernel
theorem dX9_orAll_32 : decode cX9_orAll 32 = .ok (.iload_n 3, 1) := by decide +kernel
theorem dX9_orAll_33 : decode cX9_orAll 33 = .ok (.iadd, 1) := by decide +kernel
theorem dX9_orAll_34 : decode cX9_orAll 34 = .ok (.iaload, 1) := by decide +kernel
theorem dX9_orAll_35 : decode cX9_orAll 35 = .ok (.invokevirtual 159, 3) := by decide +kernel
theorem dX9_orAll_38 : decode cX9_orAll 38 = .ok (.iastore, 1) := by decide +kernel
theorem dX9_orAll_39 : decode cX9_orAll 39 = .ok (.iinc 3 1, 3) := by decide +kernel
theorem dX9_orAll_42 : decode cX9_orAll 42 = .ok (.goto (-40), 3) := by decide +kernel
theorem dX9_orAll_45 : decode cX9_orAll 45 = .ok (.return_, 1) := by decide +kernel
theorem dX9_leaveTrap_0 : decode cX9_leaveTrap 0 = .ok (.iload_n 1, 1) := by decide +kernel
theorem dX9_leaveTrap_1 : decode cX9_leaveTrap 1 = .ok (.bipush 20, 2) := by decide +kernel
theorem dX9_leaveTrap_3 : decode cX9_leaveTrap 3 = .ok (.imul, 1) := by decide +kernel
theorem dX9_leaveTrap_4 : decode cX9_leaveTrap 4 = .ok (.istore_n 3, 1) := by decide +kernel
theorem dX9_leaveTrap_5 : decode cX9_leaveTrap 5 = .ok (.aload_n 0, 1) := by decide +kernel
theorem dX9_leaveTrap_6 : decode cX9_leaveTrap 6 = .ok (.getfield 80, 3) := by decide +kernel
theorem dX9_leaveTrap_9 : decode cX9_leaveTrap 9 = .ok (.aload_n 0, 1) := by decide +kernel
theorem dX9_leaveTrap_10 : decode cX9_leaveTrap 10 = .ok (.getfield 24, 3) := by decide +kernel
theorem dX9_leaveTrap_13 : decode cX9_leaveTrap 13 = .ok (.iload_n 1, 1) := by decide +kernel
theorem dX9_leaveTrap_14 : decode cX9_leaveTrap 14 = .ok (.iaload, 1) := by decide +kernel
theorem dX9_leaveTrap_15 : decode cX9_leaveTrap 15 = .ok (.aload_n 0, 1) := by decide +kernel
theorem dX9_leaveTrap_16 : decode cX9_leaveTrap 16 = .ok (.getfield 80, 3) := by decide +kernel
theorem dX9_leaveTrap_19 : decode cX9_leaveTrap 19 = .ok (.aload_n 0, 1) := by decide +kernel
theorem dX9_leaveTrap_20 : decode cX9_leaveTrap 20 = .ok (.getfield 21, 3) := by decide +kernel
theorem dX9_leaveTrap_23 : decode cX9_leaveTrap 23 = .ok (.iload_n 1, 1) := by decide +kernel
theorem dX9_leaveTrap_24 : decode cX9_leaveTrap 24 = .ok (.iaload, 1) := by decide +kernel
theorem dX9_leaveTrap_25 : decode cX9_leaveTrap 25 = .ok (.aload_n 0, 1) := by decide +kernel
theorem dX9_leaveTrap_26 : decode cX9_leaveTrap 26 = .ok (.getfield 30, 3) := by decide +kernel
theorem dX9_leaveTrap_29 : decode cX9_leaveTrap 29 = .ok (.iload_n 2, 1) := by decide +kernel
theorem dX9_leaveTrap_30 : decode cX9_leaveTrap 30 = .ok (.iconst 2, 1) := by decide +kernel
theorem dX9_leaveTrap_31 : decode cX9_leaveTrap 31 = .ok (.iadd, 1) := by decide +kernel
theorem dX9_leaveTrap_32 : decode cX9_leaveTrap 32 = .ok (.iaload, 1) := by decide +kernel
theorem dX9_leaveTrap_33 : decode cX9_leaveTrap 33 = .ok (.invokevirtual 159, 3) := by decide +kernel
theorem dX9_leaveTrap_36 : decode cX9_leaveTrap 36 = .ok (.invokevirtual 106, 3) := by decide +kernel
theorem dX9_leaveTrap_39 : decode cX9_leaveTrap 39 = .ok (.aload_n 0, 1) := by decide +kernel
theorem dX9_leaveTrap_40 : decode cX9_leaveTrap 40 = .ok (.getfield 30, 3) := by decide +kernel
theorem dX9_leaveTrap_43 : decode cX9_leaveTrap 43 = .ok (.iload_n 3, 1) := by decide +kernel
theorem dX9_leaveTrap_44 : decode cX9_leaveTrap 44 = .ok (.aload_n 0, 1) := by decide +kernel
theorem dX9_leaveTrap_45 : decode cX9_leaveTrap 45 = .ok (.getfield 80, 3) := by decide +kernel
theorem dX9_leaveTrap_48 : decode cX9_leaveTrap 48 = .ok (.aload_n 0, 1) := by decide +kernel
theorem dX9_leaveTrap_49 : decode cX9_leaveTrap 49 = .ok (.getfield 30, 3) := by decide +kernel
theorem dX9_leaveTrap_52 : decode cX9_leaveTrap 52 = .ok (.iload_n 2, 1) := by decide +kernel
theorem dX9_leaveTrap_53 : decode cX9_leaveTrap 53 = .ok (.iaload, 1) := by decide +kernel
theorem dX9_leaveTrap_54 : decode cX9_leaveTrap 54 = .ok (.aload_n 0, 1) := by decide +kernel
theorem dX9_leaveTrap_55 : decode cX9_leaveTrap 55 = .ok (.getfield 30, 3) := by decide +kernel
theorem dX9_leaveTrap_58 : decode cX9_leaveTrap 58 = .ok (.iload_n 2, 1) := by decide +kernel
theorem dX9_leaveTrap_59 : decode cX9_leaveTrap 59 = .ok (.iconst 2, 1) := by decide +kernel
theorem dX9_leaveTrap_60 : decode cX9_leaveTrap 60 = .ok (.iadd, 1) := by decide +kernel
theorem dX9_leaveTrap_61 : decode cX9_leaveTrap 61 = .ok (.iaload, 1) := by decide +kernel
theorem dX9_leaveTrap_62 : decode cX9_leaveTrap 62 = .ok (.invokevirtual 159, 3) := by decide +kernel
theorem dX9_leaveTrap_65 : decode cX9_leaveTrap 65 = .ok (.iastore, 1) := by decide +kernel
theorem dX9_leaveTrap_66 : decode cX9_leaveTrap 66 = .ok (.aload_n 0, 1) := by decide +kernel
theorem dX9_leaveTrap_67 : decode cX9_leaveTrap 67 = .ok (.getfield 30, 3) := by decide +kernel
theorem dX9_leaveTrap_70 : decode cX9_leaveTrap 70 = .ok (.iload_n 3, 1) := by decide +kernel
theorem dX9_leaveTrap_71 : decode cX9_leaveTrap 71 = .ok (.iconst 1, 1) := by decide +kernel
theorem dX9_leaveTrap_72 : decode cX9_leaveTrap 72 = .ok (.iadd, 1) := by decide +kernel
theorem dX9_leaveTrap_73 : decode cX9_leaveTrap 73 = .ok (.aload_n 0, 1) := by decide +kernel
theorem dX9_leaveTrap_74 : decode cX9_leaveTrap 74 = .ok (.getfield 30, 3) := by decide +kernel
theorem dX9_leaveTrap_77 : decode cX9_leaveTrap 77 = .ok (.iload_n 2, 1) := by decide +kernel
theorem dX9_leaveTrap_78 : decode cX9_leaveTrap 78 = .ok (.iconst 1, 1) := by decide +kernel
theorem dX9_leaveTrap_79 : decode cX9_leaveTrap 79 = .ok (.iadd, 1) := by decide +kernel
theorem dX9_leaveTrap_80 : decode cX9_leaveTrap 80 = .ok (.iaload, 1) := by decide +kernel
theorem dX9_leaveTrap_81 : decode cX9_leaveTrap 81 = .ok (.iastore, 1) := by decide +kernel
theorem dX9_leaveTrap_82 : decode cX9_leaveTrap 82 = .ok (.iconst 2, 1) := by decide +kernel
theorem dX9_leaveTrap_83 : decode cX9_leaveTrap 83 = .ok (.istore 4, 2) := by decide +kernel
theorem dX9_leaveTrap_85 : decode cX9_leaveTrap 85 = .ok (.iload 4, 2) := by decide +kernel
theorem dX9_leaveTrap_87 : decode cX9_leaveTrap 87 = .ok (.iconst 1, 1) := by decide +kernel
theorem dX9_leaveTrap_88 : decode cX9_leaveTrap 88 = .ok (.iadd, 1) := by decide +kernel
theorem dX9_leaveTrap_89 : decode cX9_leaveTrap 89 = .ok (.bipush 20, 2) := by decide +kernel
theorem dX9_leaveTrap_91 : decode cX9_leaveTrap 91 = .ok (.if_icmp .ge 29, 3) := by decide +kernel
theorem dX9_leaveTrap_94 : decode cX9_leaveTrap 94 = .ok (.aload_n 0, 1) := by decide +kernel
theorem dX9_leaveTrap_95 : decode cX9_leaveTrap 95 = .ok (.getfield 30, 3) := by decide +kernel
theorem dX9_leaveTrap_98 : decode cX9_leaveTrap 98 = .ok (.iload_n 3, 1) := by decide +kernel
theorem dX9_leaveTrap_99 : decode cX9_leaveTrap 99 = .ok (.iload 4, 2) := by decide +kernel
theorem dX9_leaveTrap_101 : decode cX9_leaveTrap 101 = .ok (.iadd, 1) := by decide +kernel
theorem dX9_leaveTrap_102 : decode cX9_leaveTrap 102 = .ok (.aload_n 0, 1) := by decide +kernel
theorem dX9_leaveTrap_103 : decode cX9_leaveTrap 103 = .ok (.getfield 30, 3) := by decide +kernel
theorem dX9_leaveTrap_106 : decode cX9_leaveTrap 106 = .ok (.iload_n 2, 1) := by decide +kernel
theorem dX9_leaveTrap_107 : decode cX9_leaveTrap 107 = .ok (.iload 4, 2) := by decide +kernel
theorem dX9_leaveTrap_109 : decode cX9_leaveTrap 109 = .ok (.iadd, 1) := by decide +kernel
theorem dX9_leaveTrap_110 : decode cX9_leaveTrap 110 = .ok (.iconst 1, 1) := by decide +kernel
theorem dX9_leaveTrap_111 : decode cX9_leaveTrap 111 = .ok (.iadd, 1) := by decide +kernel
theorem dX9_leaveTrap_112 : decode cX9_leaveTrap 112 = .ok (.iaload, 1) := by decide +kernel
theorem dX9_leaveTrap_113 : decode cX9_leaveTrap 113 = .ok (.iastore, 1) := by decide +kernel
theorem dX9_leaveTrap_114 : decode cX9_leaveTrap 114 = .ok (.iinc 4 1, 3) := by decide +kernel
theorem dX9_leaveTrap_117 : decode cX9_leaveTrap 117 = .ok (.goto (-32), 3) := by decide +kernel
theorem dX9_leaveTrap_120 : decode cX9_leaveTrap 120 = .ok (.return_, 1) := by decide +kernel
theorem dX9_joinBranches_0 : decode cX9_joinBranches 0 = .ok (.aload_n 0, 1) := by decide +kernel
theorem dX9_joinBranches_1 : decode cX9_joinBranches 1 = .ok (.iload_n 1, 1) := by decide +kernel
theorem dX9_joinBranches_2 : decode cX9_joinBranches 2 = .ok (.invokevirtual 156, 3) := by decide +kernel
theorem dX9_joinBranches_5 : decode cX9_joinBranches 5 = .ok (.istore_n 2, 1) := by decide +kernel
theorem dX9_joinBranches_6 : decode cX9_joinBranches 6 = .ok (.aload_n 0, 1) := by decide +kernel
theorem dX9_joinBranches_7 : decode cX9_joinBranches 7 = .ok (.getfield 33, 3) := by decide +kernel
theorem dX9_joinBranches_10 : decode cX9_joinBranches 10 = .ok (.getfield 55, 3) := by decide +kernel
theorem dX9_joinBranches_13 : decode cX9_joinBranches 13 = .ok (.iload_n 1, 1) := by decide +kernel
theorem dX9_joinBranches_14 : decode cX9_joinBranches 14 = .ok (.iaload, 1) := by decide +kernel
theorem dX9_joinBranches_15 : decode cX9_joinBranches 15 = .ok (.istore_n 3, 1) := by decide +kernel
theorem dX9_joinBranches_16 : decode cX9_joinBranches 16 = .ok (.iconst 0, 1) := by decide +kernel
theorem dX9_joinBranches_17 : decode cX9_joinBranches 17 = .ok (.istore 4, 2) := by decide +kernel
theorem dX9_joinBranches_19 : decode cX9_joinBranches 19 = .ok (.iload 4, 2) := by decide +kernel
theorem dX9_joinBranches_21 : decode cX9_joinBranches 21 = .ok (.sipush 640, 3) := by decide +kernel
theorem dX9_joinBranches_24 : decode cX9_joinBranches 24 = .ok (.if_icmp .ge 60, 3) := by decide +kernel
theorem dX9_joinBranches_27 : decode cX9_joinBranches 27 = .ok (.iload_n 3, 1) := by decide +kernel
theorem dX9_joinBranches_28 : decode cX9_joinBranches 28 = .ok (.ifCond .eq 56, 3) := by decide +kernel
theorem dX9_joinBranches_31 : decode cX9_joinBranches 31 = .ok (.aload_n 0, 1) := by decide +kernel
theorem dX9_joinBranches_32 : decode cX9_joinBranches 32 = .ok (.getfield 80, 3) := by decide +kernel
theorem dX9_joinBranches_35 : decode cX9_joinBranches 35 = .ok (.aload_n 0, 1) := by decide +kernel
theorem dX9_joinBranches_36 : decode cX9_joinBranches 36 = .ok (.getfield 33, 3) := by decide +kernel
theorem dX9_joinBranches_39 : decode cX9_joinBranches 39 = .ok (.getfield 133, 3) := by decide +kernel
theorem dX9_joinBranches_42 : decode cX9_joinBranches 42 = .ok (.iload_n 3, 1) := by decide +kernel
theorem dX9_joinBranches_43 : decode cX9_joinBranches 43 = .ok (.iaload, 1) := by decide +kernel
theorem dX9_joinBranches_44 : decode cX9_joinBranches 44 = .ok (.invokevirtual 162, 3) := by decide +kernel
theorem dX9_joinBranches_47 : decode cX9_joinBranches 47 = .ok (.istore 5, 2) := by decide +kernel
theorem dX9_joinBranches_49 : decode cX9_joinBranches 49 = .ok (.aload_n 0, 1) := by decide +kernel
theorem dX9_joinBranches_50 : decode cX9_joinBranches 50 = .ok (.getfield 27, 3) := by decide +kernel
theorem dX9_joinBranches_53 : decode cX9_joinBranches 53 = .ok (.iload_n 3, 1) := by decide +kernel
theorem dX9_joinBranches_54 : decode cX9_joinBranches 54 = .ok (.aload_n 0, 1) := by decide +kernel
theorem dX9_joinBranches_55 : decode cX9_joinBranches 55 = .ok (.getfield 80, 3) := by decide +kernel
theorem dX9_joinBranches_58 : decode cX9_joinBranches 58 = .ok (.iload_n 2, 1) := by decide +kernel
theorem dX9_joinBranches_59 : decode cX9_joinBranches 59 = .ok (.iload 5, 2) := by decide +kernel
theorem dX9_joinBranches_61 : decode cX9_joinBranches 61 = .ok (.invokestatic 85, 3) := by decide +kernel
theorem dX9_joinBranches_64 : decode cX9_joinBranches 64 = .ok (.invokevirtual 152, 3) := by decide +kernel
theorem dX9_joinBranches_67 : decode cX9_joinBranches 67 = .ok (.iastore, 1) := by decide +kernel
theorem dX9_joinBranches_68 : decode cX9_joinBranches 68 = .ok (.aload_n 0, 1) := by decide +kernel
theorem dX9_joinBranches_69 : decode cX9_joinBranches 69 = .ok (.getfield 33, 3) := by decide +kernel
theorem dX9_joinBranches_72 : decode cX9_joinBranches 72 = .ok (.getfield 67, 3) := by decide +kernel
theorem dX9_joinBranches_75 : decode cX9_joinBranches 75 = .ok (.iload_n 3, 1) := by decide +kernel
theorem dX9_joinBranches_76 : decode cX9_joinBranches 76 = .ok (.iaload, 1) := by decide +kernel
theorem dX9_joinBranches_77 : decode cX9_joinBranches 77 = .ok (.istore_n 3, 1) := by decide +kernel
theorem dX9_joinBranches_78 : decode cX9_joinBranches 78 = .ok (.iinc 4 1, 3) := by decide +kernel
theorem dX9_joinBranches_81 : decode cX9_joinBranches 81 = .ok (.goto (-62), 3) := by decide +kernel
theorem dX9_joinBranches_84 : decode cX9_joinBranches 84 = .ok (.iconst 0, 1) := by decide +kernel
theorem dX9_joinBranches_85 : decode cX9_joinBranches 85 = .ok (.istore 4, 2) := by decide +kernel
theorem dX9_joinBranches_87 : decode cX9_joinBranches 87 = .ok (.iload 4, 2) := by decide +kernel
theorem dX9_joinBranches_89 : decode cX9_joinBranches 89 = .ok (.bipush 20, 2) := by decide +kernel
theorem dX9_joinBranches_91 : decode cX9_joinBranches 91 = .ok (.if_icmp .ge 28, 3) := by decide +kernel
theorem dX9_joinBranches_94 : decode cX9_joinBranches 94 = .ok (.aload_n 0, 1) := by decide +kernel
theorem dX9_joinBranches_95 : decode cX9_joinBranches 95 = .ok (.getfield 30, 3) := by decide +kernel
theorem dX9_joinBranches_98 : decode cX9_joinBranches 98 = .ok (.iload_n 1, 1) := by decide +kernel
theorem dX9_joinBranches_99 : decode cX9_joinBranches 99 = .ok (.bipush 20, 2) := by decide +kernel
theorem dX9_joinBranches_101 : decode cX9_joinBranches 101 = .ok (.imul, 1) := by decide +kernel
theorem dX9_joinBranches_102 : decode cX9_joinBranches 102 = .ok (.iload 4, 2) := by decide +kernel
theorem dX9_joinBranches_104 : decode cX9_joinBranches 104 = .ok (.iadd, 1) := by decide +kernel
theorem dX9_joinBranches_105 : decode cX9_joinBranches 105 = .ok (.aload_n 0, 1) := by decide +kernel
theorem dX9_joinBranches_106 : decode cX9_joinBranches 106 = .ok (.iload_n 1, 1) := by decide +kernel
theorem dX9_joinBranches_107 : decode cX9_joinBranches 107 = .ok (.iload 4, 2) := by decide +kernel
theorem dX9_joinBranches_109 : decode cX9_joinBranches 109 = .ok (.invokevirtual 187, 3) := by decide +kernel
theorem dX9_joinBranches_112 : decode cX9_joinBranches 112 = .ok (.iastore, 1) := by decide +kernel
theorem dX9_joinBranches_113 : decode cX9_joinBranches 113 = .ok (.iinc 4 1, 3) := by decide +kernel
theorem dX9_joinBranches_116 : decode cX9_joinBranches 116 = .ok (.goto (-29), 3) := by decide +kernel
theorem dX9_joinBranches_119 : decode cX9_joinBranches 119 = .ok (.return_, 1) := by decide +kernel
theorem dX9_joined_0 : decode cX9_joined 0 = .ok (.iconst 0, 1) := by decide +kernel
theorem dX9_joined_1 : decode cX9_joined 1 = .ok (.istore_n 3, 1) := by decide +kernel
theorem dX9_joined_2 : decode cX9_joined 2 = .ok (.iconst 1, 1) := by decide +kernel
theorem dX9_joined_3 : decode cX9_joined 3 = .ok (.istore 4, 2) := by decide +kernel
theorem dX9_joined_5 : decode cX9_joined 5 = .ok (.aload_n 0, 1) := by decide +kernel
theorem dX9_joined_6 : decode cX9_joined 6 = .ok (.getfield 33, 3) := by decide +kernel
theorem dX9_joined_9 : decode cX9_joined 9 = .ok (.getfield 55, 3) := by decide +kernel
theorem dX9_joined_12 : decode cX9_joined 12 = .ok (.iload_n 1, 1) := by decide +kernel
theorem dX9_joined_13 : decode cX9_joined 13 = .ok (.iaload, 1) := by decide +kernel
theorem dX9_joined_14 : decode cX9_joined 14 = .ok (.istore 5, 2) := by decide +kernel
theorem dX9_joined_16 : decode cX9_joined 16 = .ok (.iconst 0, 1) := by decide +kernel
theorem dX9_joined_17 : decode cX9_joined 17 = .ok (.istore 6, 2) := by decide +kernel
theorem dX9_joined_19 : decode cX9_joined 19 = .ok (.iload 6, 2) := by decide +kernel
theorem dX9_joined_21 : decode cX9_joined 21 = .ok (.sipush 640, 3) := by decide +kernel
theorem dX9_joined_24 : decode cX9_joined 24 = .ok (.if_icmp .ge 92, 3) := by decide +kernel
theorem dX9_joined_27 : decode cX9_joined 27 = .ok (.iload 5, 2) := by decide +kernel
theorem dX9_joined_29 : decode cX9_joined 29 = .ok (.ifCond .eq 87, 3) := by decide +kernel
theorem dX9_joined_32 : decode cX9_joined 32 = .ok (.aload_n 0, 1) := by decide +kernel
theorem dX9_joined_33 : decode cX9_joined 33 = .ok (.getfield 30, 3) := by decide +kernel
theorem dX9_joined_36 : decode cX9_joined 36 = .ok (.iload 5, 2) := by decide +kernel
theorem dX9_joined_38 : decode cX9_joined 38 = .ok (.bipush 20, 2) := by decide +kernel
theorem dX9_joined_40 : decode cX9_joined 40 = .ok (.imul, 1) := by decide +kernel
theorem dX9_joined_41 : decode cX9_joined 41 = .ok (.iload_n 2, 1) := by decide +kernel
theorem dX9_joined_42 : decode cX9_joined 42 = .ok (.iadd, 1) := by decide +kernel
theorem dX9_joined_43 : decode cX9_joined 43 = .ok (.iaload, 1) := by decide +kernel
theorem dX9_joined_44 : decode cX9_joined 44 = .ok (.istore 7, 2) := by decide +kernel
theorem dX9_joined_46 : decode cX9_joined 46 = .ok (.aload_n 0, 1) := by decide +kernel
theorem dX9_joined_47 : decode cX9_joined 47 = .ok (.getfield 27, 3) := by decide +kernel
theorem dX9_joined_50 : decode cX9_joined 50 = .ok (.iload 5, 2) := by decide +kernel
theorem dX9_joined_52 : decode cX9_joined 52 = .ok (.aload_n 0, 1) := by decide +kernel
theorem dX9_joined_53 : decode cX9_joined 53 = .ok (.getfield 80, 3) := by decide +kernel
theorem dX9_joined_56 : decode cX9_joined 56 = .ok (.aload_n 0, 1) := by decide +kernel
theorem dX9_joined_57 : decode cX9_joined 57 = .ok (.getfield 27, 3) := by decide +kernel
theorem dX9_joined_60 : decode cX9_joined 60 = .ok (.iload 5, 2) := by decide +kernel
theorem dX9_joined_62 : decode cX9_joined 62 = .ok (.iaload, 1) := by decide +kernel
theorem dX9_joined_63 : decode cX9_joined 63 = .ok (.iload 7, 2) := by decide +kernel
theorem dX9_joined_65 : decode cX9_joined 65 = .ok (.invokevirtual 159, 3) := by decide +kernel
theorem dX9_joined_68 : decode cX9_joined 68 = .ok (.iastore, 1) := by decide +kernel
theorem dX9_joined_69 : decode cX9_joined 69 = .ok (.aload_n 0, 1) := by decide +kernel
theorem dX9_joined_70 : decode cX9_joined 70 = .ok (.getfield 80, 3) := by decide +kernel
theorem dX9_joined_73 : decode cX9_joined 73 = .ok (.iload_n 3, 1) := by decide +kernel
theorem dX9_joined_74 : decode cX9_joined 74 = .ok (.iload 7, 2) := by decide +kernel
theorem dX9_joined_76 : decode cX9_joined 76 = .ok (.invokevirtual 159, 3) := by decide +kernel
theorem dX9_joined_79 : decode cX9_joined 79 = .ok (.istore_n 3, 1) := by decide +kernel
theorem dX9_joined_80 : decode cX9_joined 80 = .ok (.aload_n 0, 1) := by decide +kernel
theorem dX9_joined_81 : decode cX9_joined 81 = .ok (.getfield 80, 3) := by decide +kernel
theorem dX9_joined_84 : decode cX9_joined 84 = .ok (.iload 4, 2) := by decide +kernel
theorem dX9_joined_86 : decode cX9_joined 86 = .ok (.aload_n 0, 1) := by decide +kernel
theorem dX9_joined_87 : decode cX9_joined 87 = .ok (.getfield 27, 3) := by decide +kernel
theorem dX9_joined_90 : decode cX9_joined 90 = .ok (.iload 5, 2) := by decide +kernel
theorem dX9_joined_92 : decode cX9_joined 92 = .ok (.iaload, 1) := by decide +kernel
theorem dX9_joined_93 : decode cX9_joined 93 = .ok (.invokevirtual 152, 3) := by decide +kernel
theorem dX9_joined_96 : decode cX9_joined 96 = .ok (.istore 4, 2) := by decide +kernel
theorem dX9_joined_98 : decode cX9_joined 98 = .ok (.aload_n 0, 1) := by decide +kernel
theorem dX9_joined_99 : decode cX9_joined 99 = .ok (.getfield 33, 3) := by decide +kernel
theorem dX9_joined_102 : decode cX9_joined 102 = .ok (.getfield 67, 3) := by decide +kernel
theorem dX9_joined_105 : decode cX9_joined 105 = .ok (.iload 5, 2) := by decide +kernel
theorem dX9_joined_107 : decode cX9_joined 107 = .ok (.iaload, 1) := by decide +kernel
theorem dX9_joined_108 : decode cX9_joined 108 = .ok (.istore 5, 2) := by decide +kernel
theorem dX9_joined_110 : decode cX9_joined 110 = .ok (.iinc 6 1, 3) := by decide +kernel
theorem dX9_joined_113 : decode cX9_joined 113 = .ok (.goto (-94), 3) := by decide +kernel
theorem dX9_joined_116 : decode cX9_joined 116 = .ok (.aload_n 0, 1) := by decide +kernel
theorem dX9_joined_117 : decode cX9_joined 117 = .ok (.getfield 80, 3) := by decide +kernel
theorem dX9_joined_120 : decode cX9_joined 120 = .ok (.iload_n 3, 1) := by decide +kernel
theorem dX9_joined_121 : decode cX9_joined 121 = .ok (.iload 4, 2) := by decide +kernel
theorem dX9_joined_123 : decode cX9_joined 123 = .ok (.invokevirtual 152, 3) := by decide +kernel
theorem dX9_joined_126 : decode cX9_joined 126 = .ok (.ireturn, 1) := by decide +kernel
theorem dX10_init_0 : decode cX10_init 0 = .ok (.aload_n 0, 1) := by decide +kernel
theorem dX10_init_1 : decode cX10_init 1 = .ok (.invokespecial 1, 3) := by decide +kernel
theorem dX10_init_4 : decode cX10_init 4 = .ok (.aload_n 0, 1) := by decide +kernel
theorem dX10_init_5 : decode cX10_init 5 = .ok (.sipush 800, 3) := by decide +kernel
theorem dX10_init_8 : decode cX10_init 8 = .ok (.newarray .byte, 2) := by decide +kernel
theorem dX10_init_10 : decode cX10_init 10 = .ok (.putfield 9, 3) := by decide +kernel
theorem dX10_init_13 : decode cX10_init 13 = .ok (.aload_n 0, 1) := by decide +kernel
theorem dX10_init_14 : decode cX10_init 14 = .ok (.new 13, 3) := by decide +kernel
theorem dX10_init_17 : decode cX10_init 17 = .ok (.dup, 1) := by decide +kernel
theorem dX10_init_18 : decode cX10_init 18 = .ok (.invokespecial 15, 3) := by decide +kernel
theorem dX10_init_21 : decode cX10_init 21 = .ok (.putfield 16, 3) := by decide +kernel
theorem dX10_init_24 : decode cX10_init 24 = .ok (.aload_n 0, 1) := by decide +kernel
theorem dX10_init_25 : decode cX10_init 25 = .ok (.new 13, 3) := by decide +kernel
theorem dX10_init_28 : decode cX10_init 28 = .ok (.dup, 1) := by decide +kernel
theorem dX10_init_29 : decode cX10_init 29 = .ok (.invokespecial 15, 3) := by decide +kernel
theorem dX10_init_32 : decode cX10_init 32 = .ok (.putfield 20, 3) := by decide +kernel
theorem dX10_init_35 : decode cX10_init 35 = .ok (.new 23, 3) := by decide +kernel
theorem dX10_init_38 : decode cX10_init 38 = .ok (.dup, 1) := by decide +kernel
theorem dX10_init_39 : decode cX10_init 39 = .ok (.invokespecial 25, 3) := by decide +kernel
theorem dX10_init_42 : decode cX10_init 42 = .ok (.astore_n 1, 1) := by decide +kernel
theorem dX10_init_43 : decode cX10_init 43 = .ok (.aload_n 0, 1) := by decide +kernel
theorem dX10_init_44 : decode cX10_init 44 = .ok (.new 26, 3) := by decide +kernel
theorem dX10_init_47 : decode cX10_init 47 = .ok (.dup, 1) := by decide +kernel
theorem dX10_init_48 : decode cX10_init 48 = .ok (.aload_n 0, 1) := by decide +kernel
theorem dX10_init_49 : decode cX10_init 49 = .ok (.getfield 9, 3) := by decide +kernel
theorem dX10_init_52 : decode cX10_init 52 = .ok (.aload_n 1, 1) := by decide +kernel
theorem dX10_init_53 : decode cX10_init 53 = .ok (.invokespecial 28, 3) := by decide +kernel
theorem dX10_init_56 : decode cX10_init 56 = .ok (.putfield 31, 3) := by decide +kernel
theorem dX10_init_59 : decode cX10_init 59 = .ok (.aload_n 0, 1) := by decide +kernel
theorem dX10_init_60 : decode cX10_init 60 = .ok (.new 35, 3) := by decide +kernel
theorem dX10_init_63 : decode cX10_init 63 = .ok (.dup, 1) := by decide +kernel
theorem dX10_init_64 : decode cX10_init 64 = .ok (.aload_n 1, 1) := by decide +kernel
theorem dX10_init_65 : decode cX10_init 65 = .ok (.invokespecial 37, 3) := by decide +kernel
theorem dX10_init_68 : decode cX10_init 68 = .ok (.putfield 40, 3) := by decide +kernel
theorem dX10_init_71 : decode cX10_init 71 = .ok (.aload_n 0, 1) := by decide +kernel
theorem dX10_init_72 : decode cX10_init 72 = .ok (.iconst (-1), 1) := by decide +kernel
theorem dX10_init_73 : decode cX10_init 73 = .ok (.putfield 44, 3) := by decide +kernel
theorem dX10_init_76 : decode cX10_init 76 = .ok (.aload_n 0, 1) := by decide +kernel
theorem dX10_init_77 : decode cX10_init 77 = .ok (.iconst (-1), 1) := by decide +kernel
theorem dX10_init_78 : decode cX10_init 78 = .ok (.putfield 48, 3) := by decide +kernel
theorem dX10_init_81 : decode cX10_init 81 = .ok (.return_, 1) := by decide +kernel
theorem dX10_feed_0 : decode cX10_feed 0 = .ok (.aload_n 0, 1) := by decide +kernel
theorem dX10_feed_1 : decode cX10_feed 1 = .ok (.getfield 51, 3) := by decide +kernel
theorem dX10_feed_4 : decode cX10_feed 4 = .ok (.bipush 20, 2) := by decide +kernel
theorem dX10_feed_6 : decode cX10_feed 6 = .ok (.iadd, 1) := by decide +kernel
theorem dX10_feed_7 : decode cX10_feed 7 = .ok (.sipush 800, 3) := by decide +kernel
theorem dX10_feed_10 : decode cX10_feed 10 = .ok (.if_icmp .le 6, 3) := by decide +kernel
theorem dX10_feed_13 : decode cX10_feed 13 = .ok (.bipush (-3), 2) := by decide +kernel
theorem dX10_feed_15 : decode cX10_feed 15 = .ok (.ireturn, 1) := by decide +kernel
theorem dX10_feed_16 : decode cX10_feed 16 = .ok (.aload_n 0, 1) := by decide +kernel
theorem dX10_feed_17 : decode cX10_feed 17 = .ok (.iload_n 1, 1) := by decide +kernel
theorem dX10_feed_18 : decode cX10_feed 18 = .ok (.invokevirtual 54, 3) := by decide +kernel
theorem dX10_feed_21 : decode cX10_feed 21 = .ok (.aload_n 0, 1) := by decide +kernel
theorem dX10_feed_22 : decode cX10_feed 22 = .ok (.iload_n 2, 1) := by decide +kernel
theorem dX10_feed_23 : decode cX10_feed 23 = .ok (.invokevirtual 54, 3) := by decide +kernel
theorem dX10_feed_26 : decode cX10_feed 26 = .ok (.aload_n 0, 1) := by decide +kernel
theorem dX10_feed_27 : decode cX10_feed 27 = .ok (.iload_n 3, 1) := by decide +kernel
theorem dX10_feed_28 : decode cX10_feed 28 = .ok (.invokevirtual 54, 3) := by decide +kernel
theorem dX10_feed_31 : decode cX10_feed 31 = .ok (.aload_n 0, 1) := by decide +kernel
theorem dX10_feed_32 : decode cX10_feed 32 = .ok (.iload 4, 2) := by decide +kernel
theorem dX10_feed_34 : decode cX10_feed 34 = .ok (.invokevirtual 54, 3) := by decide +kernel
theorem dX10_feed_37 : decode cX10_feed 37 = .ok (.aload_n 0, 1) := by decide +kernel
theorem dX10_feed_38 : decode cX10_feed 38 = .ok (.iload 5, 2) := by decide +kernel
theorem dX10_feed_40 : decode cX10_feed 40 = .ok (.invokevirtual 54, 3) := by decide +kernel
theorem dX10_feed_43 : decode cX10_feed 43 = .ok (.aload_n 0, 1) := by decide +kernel
theorem dX10_feed_44 : decode cX10_feed 44 = .ok (.getfield 51, 3) := by decide +kernel
theorem dX10_feed_47 : decode cX10_feed 47 = .ok (.ireturn, 1) := by decide +kernel
theorem dX10_append_0 : decode cX10_append 0 = .ok (.bipush 24, 2) := by decide +kernel
theorem dX10_append_2 : decode cX10_append 2 = .ok (.istore_n 2, 1) := by decide +kernel
theorem dX10_append_3 : decode cX10_append 3 = .ok (.iload_n 2, 1) := by decide +kernel
theorem dX10_append_4 : decode cX10_append 4 = .ok (.ifCond .lt 44, 3) := by decide +kernel
theorem dX10_append_7 : decode cX10_append 7 = .ok (.aload_n 0, 1) := by decide +kernel
theorem dX10_append_8 : decode cX10_append 8 = .ok (.getfield 51, 3) := by decide +kernel
theorem dX10_append_11 : decode cX10_append 11 = .ok (.aload_n 0, 1) := by decide +kernel
theorem dX10_append_12 : decode cX10_append 12 = .ok (.getfield 9, 3) := by decide +kernel
theorem dX10_append_15 : decode cX10_append 15 = .ok (.arraylength, 1) := by decide +kernel
theorem dX10_append_16 : decode cX10_append 16 = .ok (.if_icmp .ge 32, 3) := by decide +kernel
theorem dX10_append_19 : decode cX10_append 19 = .ok (.aload_n 0, 1) := by decide +kernel
theorem dX10_append_20 : decode cX10_append 20 = .ok (.getfield 9, 3) := by decide +kernel
theorem dX10_append_23 : decode cX10_append 23 = .ok (.aload_n 0, 1) := by decide +kernel
theorem dX10_append_24 : decode cX10_append 24 = .ok (.getfield 51, 3) := by decide +kernel
theorem dX10_append_27 : decode cX10_append 27 = .ok (.iload_n 1, 1) := by decide +kernel
theorem dX10_append_28 : decode cX10_append 28 = .ok (.iload_n 2, 1) := by decide +kernel
theorem dX10_append_29 : decode cX10_append 29 = .ok (.iushr, 1) := by decide +kernel
theorem dX10_append_30 : decode cX10_append 30 = .ok (.i2b, 1) := by decide +kernel
theorem dX10_append_31 : decode cX10_append 31 = .ok (.bastore, 1) := by decide +kernel
theorem dX10_append_32 : decode cX10_append 32 = .ok (.aload_n 0, 1) := by decide +kernel
theorem dX10_append_33 : decode cX10_append 33 = .ok (.dup, 1) := by decide +kernel
theorem dX10_append_34 : decode cX10_append 34 = .ok (.getfield 51, 3) := by decide +kernel
theorem dX10_append_37 : decode cX10_append 37 = .ok (.iconst 1, 1) := by decide +kernel
theorem dX10_append_38 : decode cX10_append 38 = .ok (.iadd, 1) := by decide +kernel
theorem dX10_append_39 : decode cX10_append 39 = .ok (.putfield 51, 3) := by decide +kernel
theorem dX10_append_42 : decode cX10_append 42 = .ok (.iinc 2 (-8), 3) := by decide +kernel
theorem dX10_append_45 : decode cX10_append 45 = .ok (.goto (-42), 3) := by decide +kernel
theorem dX10_append_48 : decode cX10_append 48 = .ok (.return_, 1) := by decide +kernel
theorem dX10_end_0 : decode cX10_end 0 = .ok (.iload_n 1, 1) := by decide +kernel
theorem dX10_end_1 : decode cX10_end 1 = .ok (.ifCond .lt 11, 3) := by decide +kernel
theorem dX10_end_4 : decode cX10_end 4 = .ok (.iload_n 1, 1) := by decide +kernel
theorem dX10_end_5 : decode cX10_end 5 = .ok (.aload_n 0, 1) := by decide +kernel
theorem dX10_end_6 : decode cX10_end 6 = .ok (.getfield 51, 3) := by decide +kernel
theorem dX10_end_9 : decode cX10_end 9 = .ok (.if_icmp .le 5, 3) := by decide +kernel
theorem dX10_end_12 : decode cX10_end 12 = .ok (.iconst (-1), 1) := by decide +kernel
theorem dX10_end_13 : decode cX10_end 13 = .ok (.ireturn, 1) := by decide +kernel
theorem dX10_end_14 : decode cX10_end 14 = .ok (.aload_n 0, 1) := by decide +kernel
theorem dX10_end_15 : decode cX10_end 15 = .ok (.getfield 51, 3) := by decide +kernel
theorem dX10_end_18 : decode cX10_end 18 = .ok (.istore_n 2, 1) := by decide +kernel
theorem dX10_end_19 : decode cX10_end 19 = .ok (.aload_n 0, 1) := by decide +kernel
theorem dX10_end_20 : decode cX10_end 20 = .ok (.iload_n 1, 1) := by decide +kernel
theorem dX10_end_21 : decode cX10_end 21 = .ok (.putfield 51, 3) := by decide +kernel
theorem dX10_end_24 : decode cX10_end 24 = .ok (.iload_n 2, 1) := by decide +kernel
theorem dX10_end_25 : decode cX10_end 25 = .ok (.ireturn, 1) := by decide +kernel
theorem dX10_compile_0 : decode cX10_compile 0 = .ok (.aload_n 0, 1) := by decide +kernel
theorem dX10_compile_1 : decode cX10_compile 1 = .ok (.getfield 16, 3) := by decide +kernel
theorem dX10_compile_4 : decode cX10_compile 4 = .ok (.invokevirtual 58, 3) := by decide +kernel
theorem dX10_compile_7 : decode cX10_compile 7 = .ok (.iconst 4, 1) := by decide +kernel
theorem dX10_compile_8 : decode cX10_compile 8 = .ok (.if_icmp .lt 6, 3) := by decide +kernel
theorem dX10_compile_11 : decode cX10_compile 11 = .ok (.bipush (-3), 2) := by decide +kernel
theorem dX10_compile_13 : decode cX10_compile 13 = .ok (.ireturn, 1) := by decide +kernel
theorem dX10_compile_14 : decode cX10_compile 14 = .ok (.aload_n 0, 1) := by decide +kernel
theorem dX10_compile_15 : decode cX10_compile 15 = .ok (.getfield 31, 3) := by decide +kernel
theorem dX10_compile_18 : decode cX10_compile 18 = .ok (.aload_n 0, 1) := by decide +kernel
theorem dX10_compile_19 : decode cX10_compile 19 = .ok (.getfield 51, 3) := by decide +kernel
theorem dX10_compile_22 : decode cX10_compile 22 = .ok (.invokevirtual 62, 3) := by decide +kernel
theorem dX10_compile_25 : decode cX10_compile 25 = .ok (.astore_n 1, 1) := by decide +kernel
theorem dX10_compile_26 : decode cX10_compile 26 = .ok (.aload_n 0, 1) := by decide +kernel
theorem dX10_compile_27 : decode cX10_compile 27 = .ok (.iconst 0, 1) := by decide +kernel
theorem dX10_compile_28 : decode cX10_compile 28 = .ok (.putfield 51, 3) := by decide +kernel
theorem dX10_compile_31 : decode cX10_compile 31 = .ok (.aload_n 0, 1) := by decide +kernel
theorem dX10_compile_32 : decode cX10_compile 32 = .ok (.aload_n 0, 1) := by decide +kernel
theorem dX10_compile_33 : decode cX10_compile 33 = .ok (.getfield 31, 3) := by decide +kernel
theorem dX10_compile_36 : decode cX10_compile 36 = .ok (.getfield 66, 3) := by decide +kernel
theorem dX10_compile_39 : decode cX10_compile 39 = .ok (.getfield 70, 3) := by decide +kernel
theorem dX10_compile_42 : decode cX10_compile 42 = .ok (.putfield 75, 3) := by decide +kernel
theorem dX10_compile_45 : decode cX10_compile 45 = .ok (.aload_n 1, 1) := by decide +kernel
theorem dX10_compile_46 : decode cX10_compile 46 = .ok (.ifnonnull 17, 3) := by decide +kernel
theorem dX10_compile_49 : decode cX10_compile 49 = .ok (.bipush (-10), 2) := by decide +kernel
theorem dX10_compile_51 : decode cX10_compile 51 = .ok (.aload_n 0, 1) := by decide +kernel
theorem dX10_compile_52 : decode cX10_compile 52 = .ok (.getfield 31, 3) := by decide +kernel
theorem dX10_compile_55 : decode cX10_compile 55 = .ok (.getfield 66, 3) := by decide +kernel
theorem dX10_compile_58 : decode cX10_compile 58 = .ok (.getfield 78, 3) := by decide +kernel
theorem dX10_compile_61 : decode cX10_compile 61 = .ok (.isub, 1) := by decide +kernel
theorem dX10_compile_62 : decode cX10_compile 62 = .ok (.ireturn, 1) := by decide +kernel
theorem dX10_compile_63 : decode cX10_compile 63 = .ok (.aload_n 0, 1) := by decide +kernel
theorem dX10_compile_64 : decode cX10_compile 64 = .ok (.getfield 40, 3) := by decide +kernel
theorem dX10_compile_67 : decode cX10_compile 67 = .ok (.aload_n 1, 1) := by decide +kernel
theorem dX10_compile_68 : decode cX10_compile 68 = .ok (.invokevirtual 81, 3) := by decide +kernel
theorem dX10_compile_71 : decode cX10_compile 71 = .ok (.aload_n 0, 1) := by decide +kernel
theorem dX10_compile_72 : decode cX10_compile 72 = .ok (.getfield 16, 3) := by decide +kernel
theorem dX10_compile_75 : decode cX10_compile 75 = .ok (.aload_n 1, 1) := by decide +kernel
theorem dX10_compile_76 : decode cX10_compile 76 = .ok (.invokevirtual 85, 3) := by decide +kernel
theorem dX10_compile_79 : decode cX10_compile 79 = .ok (.pop, 1) := by decide +kernel
theorem dX10_compile_80 : decode cX10_compile 80 = .ok (.aload_n 0, 1) := by decide +kernel
theorem dX10_compile_81 : decode cX10_compile 81 = .ok (.getfield 16, 3) := by decide +kernel
theorem dX10_compile_84 : decode cX10_compile 84 = .ok (.invokevirtual 58, 3) := by decide +kernel
theorem dX10_compile_87 : decode cX10_compile 87 = .ok (.iconst 1, 1) := by decide +kernel
theorem dX10_compile_88 : decode cX10_compile 88 = .ok (.isub, 1) := by decide +kernel
theorem dX10_compile_89 : decode cX10_compile 89 = .ok (.ireturn, 1) := by decide +kernel
theorem dX10_fault_0 : decode cX10_fault 0 = .ok (.aload_n 0, 1) := by decide +kernel
theorem dX10_fault_1 : decode cX10_fault 1 = .ok (.getfield 75, 3) := by decide +kernel
theorem dX10_fault_4 : decode cX10_fault 4 = .ok (.ireturn, 1) := by decide +kernel
theorem dX10_module_0 : decode cX10_module 0 = .ok (.aload_n 0, 1) := by decide +kernel
theorem dX10_module_1 : decode cX10_module 1 = .ok (.iload_n 1, 1) := by decide +kernel
theorem dX10_module_2 : decode cX10_module 2 = .ok (.invokevirtual 89, 3) := by decide +kernel
theorem dX10_module_5 : decode cX10_module 5 = .ok (.astore_n 3, 1) := by decide +kernel
theorem dX10_module_6 : decode cX10_module 6 = .ok (.aload_n 3, 1) := by decide +kernel
theorem dX10_module_7 : decode cX10_module 7 = .ok (.ifnonnull 5, 3) := by decide +kernel
theorem dX10_module_10 : decode cX10_module 10 = .ok (.iconst (-1), 1) := by decide +kernel
theorem dX10_module_11 : decode cX10_module 11 = .ok (.ireturn, 1) := by decide +kernel
theorem dX10_module_12 : decode cX10_module 12 = .ok (.iload_n 2, 1) := by decide +kernel
theorem dX10_module_13 : decode cX10_module 13 = .ok (.tableswitch 93 0 7 #[47, 52, 57, 65, 70, 78, 83, 88], 47) := by decide +kernel
theorem dX10_module_60 : decode cX10_module 60 = .ok (.aload_n 3, 1) := by decide +kernel
theorem dX10_module_61 : decode cX10_module 61 = .ok (.getfield 92, 3) := by decide +kernel
theorem dX10_module_64 : decode cX10_module 64 = .ok (.ireturn, 1) := by decide +kernel
theorem dX10_module_65 : decode cX10_module 65 = .ok (.aload_n 3, 1) := by decide +kernel
theorem dX10_module_66 : decode cX10_module 66 = .ok (.getfield 97, 3) := by decide +kernel
theorem dX10_module_69 : decode cX10_module 69 = .ok (.ireturn, 1) := by decide +kernel
theorem dX10_module_70 : decode cX10_module 70 = .ok (.aload_n 3, 1) := by decide +kernel
theorem dX10_module_71 : decode cX10_module 71 = .ok (.getfield 100, 3) := by decide +kernel
theorem dX10_module_74 : decode cX10_module 74 = .ok (.invokestatic 103, 3) := by decide +kernel
theorem dX10_module_77 : decode cX10_module 77 = .ok (.ireturn, 1) := by decide +kernel
theorem dX10_module_78 : decode cX10_module 78 = .ok (.aload_n 3, 1) := by decide +kernel
theorem dX10_module_79 : decode cX10_module 79 = .ok (.getfield 109, 3) := by decide +kernel
theorem dX10_module_82 : decode cX10_module 82 = .ok (.ireturn, 1) := by decide +kernel
theorem dX10_module_83 : decode cX10_module 83 = .ok (.aload_n 3, 1) := by decide +kernel
theorem dX10_module_84 : decode cX10_module 84 = .ok (.getfield 112, 3) := by decide +kernel
theorem dX10_module_87 : decode cX10_module 87 = .ok (.invokevirtual 58, 3) := by decide +kernel
theorem dX10_module_90 : decode cX10_module 90 = .ok (.ireturn, 1) := by decide +kernel
theorem dX10_module_91 : decode cX10_module 91 = .ok (.aload_n 3, 1) := by decide +kernel
theorem dX10_module_92 : decode cX10_module 92 = .ok (.getfield 115, 3) := by decide +kernel
theorem dX10_module_95 : decode cX10_module 95 = .ok (.ireturn, 1) := by decide +kernel
theorem dX10_module_96 : decode cX10_module 96 = .ok (.aload_n 3, 1) := by decide +kernel
theorem dX10_module_97 : decode cX10_module 97 = .ok (.getfield 118, 3) := by decide +kernel
theorem dX10_module_100 : decode cX10_module 100 = .ok (.ireturn, 1) := by decide +kernel
theorem dX10_module_101 : decode cX10_module 101 = .ok (.aload_n 3, 1) := by decide +kernel
theorem dX10_module_102 : decode cX10_module 102 = .ok (.getfield 121, 3) := by decide +kernel
theorem dX10_module_105 : decode cX10_module 105 = .ok (.ireturn, 1) := by decide +kernel
theorem dX10_module_106 : decode cX10_module 106 = .ok (.iconst (-1), 1) := by decide +kernel
theorem dX10_module_107 : decode cX10_module 107 = .ok (.ireturn, 1) := by decide +kernel
theorem dX10_part_0 : decode cX10_part 0 = .ok (.aload_n 0, 1) := by decide +kernel
theorem dX10_part_1 : decode cX10_part 1 = .ok (.iload_n 1, 1) := by decide +kernel
theorem dX10_part_2 : decode cX10_part 2 = .ok (.invokevirtual 89, 3) := by decide +kernel
theorem dX10_part_5 : decode cX10_part 5 = .ok (.astore_n 3, 1) := by decide +kernel
theorem dX10_part_6 : decode cX10_part 6 = .ok (.aload_n 3, 1) := by decide +kernel
theorem dX10_part_7 : decode cX10_part 7 = .ok (.ifnull 11, 3) := by decide +kernel
theorem dX10_part_10 : decode cX10_part 10 = .ok (.aload_n 3, 1) := by decide +kernel
theorem dX10_part_11 : decode cX10_part 11 = .ok (.iload_n 2, 1) := by decide +kernel
theorem dX10_part_12 : decode cX10_part 12 = .ok (.invokevirtual 124, 3) := by decide +kernel
theorem dX10_part_15 : decode cX10_part 15 = .ok (.ifCond .ne 5, 3) := by decide +kernel
theorem dX10_part_18 : decode cX10_part 18 = .ok (.iconst (-1), 1) := by decide +kernel
theorem dX10_part_19 : decode cX10_part 19 = .ok (.ireturn, 1) := by decide +kernel
theorem dX10_part_20 : decode cX10_part 20 = .ok (.aload_n 3, 1) := by decide +kernel
theorem dX10_part_21 : decode cX10_part 21 = .ok (.getfield 112, 3) := by decide +kernel
theorem dX10_part_24 : decode cX10_part 24 = .ok (.iload_n 2, 1) := by decide +kernel
theorem dX10_part_25 : decode cX10_part 25 = .ok (.invokevirtual 128, 3) := by decide +kernel
theorem dX10_part_28 : decode cX10_part 28 = .ok (.checkcast 132, 3) := by decide +kernel
theorem dX10_part_31 : decode cX10_part 31 = .ok (.getfield 134, 3) := by decide +kernel
theorem dX10_part_34 : decode cX10_part 34 = .ok (.ireturn, 1) := by decide +kernel
theorem dX10_governor_0 : decode cX10_governor 0 = .ok (.aload_n 0, 1) := by decide +kernel
theorem dX10_governor_1 : decode cX10_governor 1 = .ok (.iload_n 1, 1) := by decide +kernel
theorem dX10_governor_2 : decode cX10_governor 2 = .ok (.invokevirtual 89, 3) := by decide +kernel
theorem dX10_governor_5 : decode cX10_governor 5 = .ok (.astore_n 2, 1) := by decide +kernel
theorem dX10_governor_6 : decode cX10_governor 6 = .ok (.aload_n 2, 1) := by decide +kernel
theorem dX10_governor_7 : decode cX10_governor 7 = .ok (.ifnonnull 5, 3) := by decide +kernel
theorem dX10_governor_10 : decode cX10_governor 10 = .ok (.iconst (-1), 1) := by decide +kernel
theorem dX10_governor_11 : decode cX10_governor 11 = .ok (.ireturn, 1) := by decide +kernel
theorem dX10_governor_12 : decode cX10_governor 12 = .ok (.aload_n 0, 1) := by decide +kernel
theorem dX10_governor_13 : decode cX10_governor 13 = .ok (.getfield 20, 3) := by decide +kernel
theorem dX10_governor_16 : decode cX10_governor 16 = .ok (.invokevirtual 58, 3) := by decide +kernel
theorem dX10_governor_19 : decode cX10_governor 19 = .ok (.bipush 8, 2) := by decide +kernel
theorem dX10_governor_21 : decode cX10_governor 21 = .ok (.if_icmp .lt 6, 3) := by decide +kernel
theorem dX10_governor_24 : decode cX10_governor 24 = .ok (.bipush (-3), 2) := by decide +kernel
theorem dX10_governor_26 : decode cX10_governor 26 = .ok (.ireturn, 1) := by decide +kernel
theorem dX10_governor_27 : decode cX10_governor 27 = .ok (.aload_n 0, 1) := by decide +kernel
theorem dX10_governor_28 : decode cX10_governor 28 = .ok (.getfield 20, 3) := by decide +kernel
theorem dX10_governor_31 : decode cX10_governor 31 = .ok (.new 137, 3) := by decide +kernel
theorem dX10_governor_34 : decode cX10_governor 34 = .ok (.dup, 1) := by decide +kernel
theorem dX10_governor_35 : decode cX10_governor 35 = .ok (.aload_n 2, 1) := by decide +kernel
theorem dX10_governor_36 : decode cX10_governor 36 = .ok (.iload_n 1, 1) := by decide +kernel
theorem dX10_governor_37 : decode cX10_governor 37 = .ok (.invokespecial 139, 3) := by decide +kernel
theorem dX10_governor_40 : decode cX10_governor 40 = .ok (.invokevirtual 85, 3) := by decide +kernel
theorem dX10_governor_43 : decode cX10_governor 43 = .ok (.pop, 1) := by decide +kernel
theorem dX10_governor_44 : decode cX10_governor 44 = .ok (.aload_n 0, 1) := by decide +kernel
theorem dX10_governor_45 : decode cX10_governor 45 = .ok (.getfield 20, 3) := by decide +kernel
theorem dX10_governor_48 : decode cX10_governor 48 = .ok (.invokevirtual 58, 3) := by decide +kernel
theorem dX10_governor_51 : decode cX10_governor 51 = .ok (.iconst 1, 1) := by decide +kernel
theorem dX10_governor_52 : decode cX10_governor 52 = .ok (.isub, 1) := by decide +kernel
theorem dX10_governor_53 : decode cX10_governor 53 = .ok (.ireturn, 1) := by decide +kernel
theorem dX10_give_0 : decode cX10_give 0 = .ok (.aload_n 0, 1) := by decide +kernel
theorem dX10_give_1 : decode cX10_give 1 = .ok (.iload_n 1, 1) := by decide +kernel
theorem dX10_give_2 : decode cX10_give 2 = .ok (.invokevirtual 142, 3) := by decide +kernel
theorem dX10_give_5 : decode cX10_give 5 = .ok (.astore 5, 2) := by decide +kernel
theorem dX10_give_7 : decode cX10_give 7 = .ok (.aload 5, 2) := by decide +kernel
theorem dX10_give_9 : decode cX10_give 9 = .ok (.ifnull 19, 3) := by decide +kernel
theorem dX10_give_12 : decode cX10_give 12 = .ok (.iload_n 2, 1) := by decide +kernel
theorem dX10_give_13 : decode cX10_give 13 = .ok (.ifCond .lt 15, 3) := by decide +kernel
theorem dX10_give_16 : decode cX10_give 16 = .ok (.iload_n 2, 1) := by decide +kernel
theorem dX10_give_17 : decode cX10_give 17 = .ok (.aload 5, 2) := by decide +kernel
theorem dX10_give_19 : decode cX10_give 19 = .ok (.getfield 146, 3) := by decide +kernel
theorem dX10_give_22 : decode cX10_give 22 = .ok (.getfield 97, 3) := by decide +kernel
theorem dX10_give_25 : decode cX10_give 25 = .ok (.if_icmp .lt 5, 3) := by decide +kernel
theorem dX10_give_28 : decode cX10_give 28 = .ok (.iconst (-1), 1) := by decide +kernel
theorem dX10_give_29 : decode cX10_give 29 = .ok (.ireturn, 1) := by decide +kernel
theorem dX10_give_30 : decode cX10_give 30 = .ok (.iload 4, 2) := by decide +kernel
theorem dX10_give_32 : decode cX10_give 32 = .ok (.ldc 150, 2) := by decide +kernel
theorem dX10_give_34 : decode cX10_give 34 = .ok (.if_icmp .lt 10, 3) := by decide +kernel
theorem dX10_give_37 : decode cX10_give 37 = .ok (.iload 4, 2) := by decide +kernel
theorem dX10_give_39 : decode cX10_give 39 = .ok (.ldc 151, 2) := by decide +kernel
theorem dX10_give_41 : decode cX10_give 41 = .ok (.if_icmp .le 5, 3) := by decide +kernel
theorem dX10_give_44 : decode cX10_give 44 = .ok (.iconst (-1), 1) := by decide +kernel
theorem dX10_give_45 : decode cX10_give 45 = .ok (.ireturn, 1) := by decide +kernel
theorem dX10_give_46 : decode cX10_give 46 = .ok (.aload 5, 2) := by decide +kernel
theorem dX10_give_48 : decode cX10_give 48 = .ok (.invokevirtual 152, 3) := by decide +kernel
theorem dX10_give_51 : decode cX10_give 51 = .ok (.ifCond .eq 6, 3) := by decide +kernel
theorem dX10_give_54 : decode cX10_give 54 = .ok (.bipush (-2), 2) := by decide +kernel
theorem dX10_give_56 : decode cX10_give 56 = .ok (.ireturn, 1) := by decide +kernel
theorem dX10_give_57 : decode cX10_give 57 = .ok (.aload 5, 2) := by decide +kernel
theorem dX10_give_59 : decode cX10_give 59 = .ok (.iload_n 2, 1) := by decide +kernel
theorem dX10_give_60 : decode cX10_give 60 = .ok (.iload_n 3, 1) := by decide +kernel
theorem dX10_give_61 : decode cX10_give 61 = .ok (.iload 4, 2) := by decide +kernel
theorem dX10_give_63 : decode cX10_give 63 = .ok (.invokevirtual 156, 3) := by decide +kernel
theorem dX10_give_66 : decode cX10_give 66 = .ok (.iconst 1, 1) := by decide +kernel
theorem dX10_give_67 : decode cX10_give 67 = .ok (.ireturn, 1) := by decide +kernel
theorem dX10_beat_0 : decode cX10_beat 0 = .ok (.aload_n 0, 1) := by decide +kernel
theorem dX10_beat_1 : decode cX10_beat 1 = .ok (.iload_n 1, 1) := by decide +kernel
theorem dX10_beat_2 : decode cX10_beat 2 = .ok (.invokevirtual 142, 3) := by decide +kernel
theorem dX10_beat_5 : decode cX10_beat 5 = .ok (.astore_n 2, 1) := by decide +kernel
theorem dX10_beat_6 : decode cX10_beat 6 = .ok (.aload_n 2, 1) := by decide +kernel
theorem dX10_beat_7 : decode cX10_beat 7 = .ok (.ifnonnull 5, 3) := by decide +kernel
theorem dX10_beat_10 : decode cX10_beat 10 = .ok (.iconst (-1), 1) := by decide +kernel
theorem dX10_beat_11 : decode cX10_beat 11 = .ok (.ireturn, 1) := by decide +kernel
theorem dX10_beat_12 : decode cX10_beat 12 = .ok (.aload_n 2, 1) := by decide +kernel
theorem dX10_beat_13 : decode cX10_beat 13 = .ok (.invokevirtual 152, 3) := by decide +kernel
theorem dX10_beat_16 : decode cX10_beat 16 = .ok (.ifCond .eq 6, 3) := by decide +kernel
theorem dX10_beat_19 : decode cX10_beat 19 = .ok (.bipush (-2), 2) := by decide +kernel
theorem dX10_beat_21 : decode cX10_beat 21 = .ok (.ireturn, 1) := by decide +kernel
theorem dX10_beat_22 : decode cX10_beat 22 = .ok (.aload_n 2, 1) := by decide +kernel
theorem dX10_beat_23 : decode cX10_beat 23 = .ok (.invokevirtual 160, 3) := by decide +kernel
theorem dX10_beat_26 : decode cX10_beat 26 = .ok (.ireturn, 1) := by decide +kernel
theorem dX10_present_0 : decode cX10_present 0 = .ok (.aload_n 0, 1) := by decide +kernel
theorem dX10_present_1 : decode cX10_present 1 = .ok (.iload_n 1, 1) := by decide +kernel
theorem dX10_present_2 : decode cX10_present 2 = .ok (.invokevirtual 142, 3) := by decide +kernel
theorem dX10_present_5 : decode cX10_present 5 = .ok (.astore_n 3, 1) := by decide +kernel
theorem dX10_present_6 : decode cX10_present 6 = .ok (.aload_n 3, 1) := by decide +kernel
theorem dX10_present_7 : decode cX10_present 7 = .ok (.ifnull 14, 3) := by decide +kernel
theorem dX10_present_10 : decode cX10_present 10 = .ok (.aload_n 3, 1) := by decide +kernel
theorem dX10_present_11 : decode cX10_present 11 = .ok (.getfield 146, 3) := by decide +kernel
theorem dX10_present_14 : decode cX10_present 14 = .ok (.iload_n 2, 1) := by decide +kernel
theorem dX10_present_15 : decode cX10_present 15 = .ok (.invokevirtual 163, 3) := by decide +kernel
theorem dX10_present_18 : decode cX10_present 18 = .ok (.ifCond .ne 5, 3) := by decide +kernel
theorem dX10_present_21 : decode cX10_present 21 = .ok (.iconst (-1), 1) := by decide +kernel
theorem dX10_present_22 : decode cX10_present 22 = .ok (.ireturn, 1) := by decide +kernel
theorem dX10_present_23 : decode cX10_present 23 = .ok (.aload_n 3, 1) := by decide +kernel
theorem dX10_present_24 : decode cX10_present 24 = .ok (.getfield 166, 3) := by decide +kernel
theorem dX10_present_27 : decode cX10_present 27 = .ok (.iload_n 2, 1) := by decide +kernel
theorem dX10_present_28 : decode cX10_present 28 = .ok (.iushr, 1) := by decide +kernel
theorem dX10_present_29 : decode cX10_present 29 = .ok (.iconst 1, 1) := by decide +kernel
theorem dX10_present_30 : decode cX10_present 30 = .ok (.iand, 1) := by decide +kernel
theorem dX10_present_31 : decode cX10_present 31 = .ok (.ireturn, 1) := by decide +kernel
theorem dX10_value_0 : decode cX10_value 0 = .ok (.aload_n 0, 1) := by decide +kernel
theorem dX10_value_1 : decode cX10_value 1 = .ok (.iload_n 1, 1) := by decide +kernel
theorem dX10_value_2 : decode cX10_value 2 = .ok (.invokevirtual 142, 3) := by decide +kernel
theorem dX10_value_5 : decode cX10_value 5 = .ok (.astore_n 3, 1) := by decide +kernel
theorem dX10_value_6 : decode cX10_value 6 = .ok (.aload_n 3, 1) := by decide +kernel
theorem dX10_value_7 : decode cX10_value 7 = .ok (.ifnull 14, 3) := by decide +kernel
theorem dX10_value_10 : decode cX10_value 10 = .ok (.aload_n 3, 1) := by decide +kernel
theorem dX10_value_11 : decode cX10_value 11 = .ok (.getfield 146, 3) := by decide +kernel
theorem dX10_value_14 : decode cX10_value 14 = .ok (.iload_n 2, 1) := by decide +kernel
theorem dX10_value_15 : decode cX10_value 15 = .ok (.invokevirtual 163, 3) := by decide +kernel
theorem dX10_value_18 : decode cX10_value 18 = .ok (.ifCond .ne 5, 3) := by decide +kernel
theorem dX10_value_21 : decode cX10_value 21 = .ok (.iconst 0, 1) := by decide +kernel
theorem dX10_value_22 : decode cX10_value 22 = .ok (.ireturn, 1) := by decide +kernel
theorem dX10_value_23 : decode cX10_value 23 = .ok (.aload_n 3, 1) := by decide +kernel
theorem dX10_value_24 : decode cX10_value 24 = .ok (.getfield 169, 3) := by decide +kernel
theorem dX10_value_27 : decode cX10_value 27 = .ok (.iconst 4, 1) := by decide +kernel
theorem dX10_value_28 : decode cX10_value 28 = .ok (.iload_n 2, 1) := by decide +kernel
theorem dX10_value_29 : decode cX10_value 29 = .ok (.iadd, 1) := by decide +kernel
theorem dX10_value_30 : decode cX10_value 30 = .ok (.iaload, 1) := by decide +kernel
theorem dX10_value_31 : decode cX10_value 31 = .ok (.ireturn, 1) := by decide +kernel
theorem dX10_variable_0 : decode cX10_variable 0 = .ok (.aload_n 0, 1) := by decide +kernel
theorem dX10_variable_1 : decode cX10_variable 1 = .ok (.iload_n 1, 1) := by decide +kernel
theorem dX10_variable_2 : decode cX10_variable 2 = .ok (.invokevirtual 142, 3) := by decide +kernel
theorem dX10_variable_5 : decode cX10_variable 5 = .ok (.astore_n 3, 1) := by decide +kernel
theorem dX10_variable_6 : decode cX10_variable 6 = .ok (.aload_n 3, 1) := by decide +kernel
theorem dX10_variable_7 : decode cX10_variable 7 = .ok (.ifnull 18, 3) := by decide +kernel
theorem dX10_variable_10 : decode cX10_variable 10 = .ok (.iload_n 2, 1) := by decide +kernel
theorem dX10_variable_11 : decode cX10_variable 11 = .ok (.ifCond .lt 14, 3) := by decide +kernel
theorem dX10_variable_14 : decode cX10_variable 14 = .ok (.iload_n 2, 1) := by decide +kernel
theorem dX10_variable_15 : decode cX10_variable 15 = .ok (.aload_n 3, 1) := by decide +kernel
theorem dX10_variable_16 : decode cX10_variable 16 = .ok (.getfield 146, 3) := by decide +kernel
theorem dX10_variable_19 : decode cX10_variable 19 = .ok (.getfield 109, 3) := by decide +kernel
theorem dX10_variable_22 : decode cX10_variable 22 = .ok (.if_icmp .lt 5, 3) := by decide +kernel
theorem dX10_variable_25 : decode cX10_variable 25 = .ok (.iconst 0, 1) := by decide +kernel
theorem dX10_variable_26 : decode cX10_variable 26 = .ok (.ireturn, 1) := by decide +kernel
theorem dX10_variable_27 : decode cX10_variable 27 = .ok (.aload_n 3, 1) := by decide +kernel
theorem dX10_variable_28 : decode cX10_variable 28 = .ok (.getfield 169, 3) := by decide +kernel
theorem dX10_variable_31 : decode cX10_variable 31 = .ok (.bipush 20, 2) := by decide +kernel
theorem dX10_variable_33 : decode cX10_variable 33 = .ok (.iload_n 2, 1) := by decide +kernel
theorem dX10_variable_34 : decode cX10_variable 34 = .ok (.iadd, 1) := by decide +kernel
theorem dX10_variable_35 : decode cX10_variable 35 = .ok (.iaload, 1) := by decide +kernel
theorem dX10_variable_36 : decode cX10_variable 36 = .ok (.ireturn, 1) := by decide +kernel
theorem dX10_wire_0 : decode cX10_wire 0 = .ok (.aload_n 0, 1) := by decide +kernel
theorem dX10_wire_1 : decode cX10_wire 1 = .ok (.iload_n 1, 1) := by decide +kernel
theorem dX10_wire_2 : decode cX10_wire 2 = .ok (.invokevirtual 142, 3) := by decide +kernel
theorem dX10_wire_5 : decode cX10_wire 5 = .ok (.astore 4, 2) := by decide +kernel
theorem dX10_wire_7 : decode cX10_wire 7 = .ok (.aload 4, 2) := by decide +kernel
theorem dX10_wire_9 : decode cX10_wire 9 = .ok (.ifnull 15, 3) := by decide +kernel
theorem dX10_wire_12 : decode cX10_wire 12 = .ok (.aload 4, 2) := by decide +kernel
theorem dX10_wire_14 : decode cX10_wire 14 = .ok (.getfield 146, 3) := by decide +kernel
theorem dX10_wire_17 : decode cX10_wire 17 = .ok (.iload_n 2, 1) := by decide +kernel
theorem dX10_wire_18 : decode cX10_wire 18 = .ok (.invokevirtual 124, 3) := by decide +kernel
theorem dX10_wire_21 : decode cX10_wire 21 = .ok (.ifCond .ne 5, 3) := by decide +kernel
theorem dX10_wire_24 : decode cX10_wire 24 = .ok (.iconst (-1), 1) := by decide +kernel
theorem dX10_wire_25 : decode cX10_wire 25 = .ok (.ireturn, 1) := by decide +kernel
theorem dX10_wire_26 : decode cX10_wire 26 = .ok (.iload_n 3, 1) := by decide +kernel
theorem dX10_wire_27 : decode cX10_wire 27 = .ok (.ifCond .lt 8, 3) := by decide +kernel
theorem dX10_wire_30 : decode cX10_wire 30 = .ok (.iload_n 3, 1) := by decide +kernel
theorem dX10_wire_31 : decode cX10_wire 31 = .ok (.iconst 5, 1) := by decide +kernel
theorem dX10_wire_32 : decode cX10_wire 32 = .ok (.if_icmp .lt 5, 3) := by decide +kernel
theorem dX10_wire_35 : decode cX10_wire 35 = .ok (.iconst (-1), 1) := by decide +kernel
theorem dX10_wire_36 : decode cX10_wire 36 = .ok (.ireturn, 1) := by decide +kernel
theorem dX10_wire_37 : decode cX10_wire 37 = .ok (.aload 4, 2) := by decide +kernel
theorem dX10_wire_39 : decode cX10_wire 39 = .ok (.iload_n 2, 1) := by decide +kernel
theorem dX10_wire_40 : decode cX10_wire 40 = .ok (.iload_n 3, 1) := by decide +kernel
theorem dX10_wire_41 : decode cX10_wire 41 = .ok (.invokevirtual 173, 3) := by decide +kernel
theorem dX10_wire_44 : decode cX10_wire 44 = .ok (.ireturn, 1) := by decide +kernel
theorem dX10_told_0 : decode cX10_told 0 = .ok (.aload_n 0, 1) := by decide +kernel
theorem dX10_told_1 : decode cX10_told 1 = .ok (.iload_n 1, 1) := by decide +kernel
theorem dX10_told_2 : decode cX10_told 2 = .ok (.invokevirtual 142, 3) := by decide +kernel
theorem dX10_told_5 : decode cX10_told 5 = .ok (.astore_n 3, 1) := by decide +kernel
theorem dX10_told_6 : decode cX10_told 6 = .ok (.aload_n 3, 1) := by decide +kernel
theorem dX10_told_7 : decode cX10_told 7 = .ok (.ifnonnull 5, 3) := by decide +kernel
theorem dX10_told_10 : decode cX10_told 10 = .ok (.iconst (-1), 1) := by decide +kernel
theorem dX10_told_11 : decode cX10_told 11 = .ok (.ireturn, 1) := by decide +kernel
theorem dX10_told_12 : decode cX10_told 12 = .ok (.iload_n 2, 1) := by decide +kernel
theorem dX10_told_13 : decode cX10_told 13 = .ok (.tableswitch 96 0 7 #[47, 54, 64, 71, 76, 81, 86, 91], 47) := by decide +kernel
theorem dX10_told_60 : decode cX10_told 60 = .ok (.aload_n 3, 1) := by decide +kernel
theorem dX10_told_61 : decode cX10_told 61 = .ok (.getfield 169, 3) := by decide +kernel
theorem dX10_told_64 : decode cX10_told 64 = .ok (.iconst 2, 1) := by decide +kernel
theorem dX10_told_65 : decode cX10_told 65 = .ok (.iaload, 1) := by decide +kernel
theorem dX10_told_66 : decode cX10_told 66 = .ok (.ireturn, 1) := by decide +kernel
theorem dX10_told_67 : decode cX10_told 67 = .ok (.aload_n 3, 1) := by decide +kernel
theorem dX10_told_68 : decode cX10_told 68 = .ok (.getfield 169, 3) := by decide +kernel
theorem dX10_told_71 : decode cX10_told 71 = .ok (.iconst 0, 1) := by decide +kernel
theorem dX10_told_72 : decode cX10_told 72 = .ok (.iaload, 1) := by decide +kernel
theorem dX10_told_73 : decode cX10_told 73 = .ok (.invokestatic 103, 3) := by decide +kernel
theorem dX10_told_76 : decode cX10_told 76 = .ok (.ireturn, 1) := by decide +kernel
theorem dX10_told_77 : decode cX10_told 77 = .ok (.aload_n 3, 1) := by decide +kernel
theorem dX10_told_78 : decode cX10_told 78 = .ok (.getfield 169, 3) := by decide +kernel
theorem dX10_told_81 : decode cX10_told 81 = .ok (.iconst 3, 1) := by decide +kernel
theorem dX10_told_82 : decode cX10_told 82 = .ok (.iaload, 1) := by decide +kernel
theorem dX10_told_83 : decode cX10_told 83 = .ok (.ireturn, 1) := by decide +kernel
theorem dX10_told_84 : decode cX10_told 84 = .ok (.aload_n 3, 1) := by decide +kernel
theorem dX10_told_85 : decode cX10_told 85 = .ok (.getfield 177, 3) := by decide +kernel
theorem dX10_told_88 : decode cX10_told 88 = .ok (.ireturn, 1) := by decide +kernel
theorem dX10_told_89 : decode cX10_told 89 = .ok (.aload_n 3, 1) := by decide +kernel
theorem dX10_told_90 : decode cX10_told 90 = .ok (.getfield 180, 3) := by decide +kernel
theorem dX10_told_93 : decode cX10_told 93 = .ok (.ireturn, 1) := by decide +kernel
theorem dX10_told_94 : decode cX10_told 94 = .ok (.aload_n 3, 1) := by decide +kernel
theorem dX10_told_95 : decode cX10_told 95 = .ok (.getfield 183, 3) := by decide +kernel
theorem dX10_told_98 : decode cX10_told 98 = .ok (.ireturn, 1) := by decide +kernel
theorem dX10_told_99 : decode cX10_told 99 = .ok (.aload_n 3, 1) := by decide +kernel
theorem dX10_told_100 : decode cX10_told 100 = .ok (.getfield 186, 3) := by decide +kernel
theorem dX10_told_103 : decode cX10_told 103 = .ok (.ireturn, 1) := by decide +kernel
theorem dX10_told_104 : decode cX10_told 104 = .ok (.aload_n 3, 1) := by decide +kernel
theorem dX10_told_105 : decode cX10_told 105 = .ok (.getfield 189, 3) := by decide +kernel
theorem dX10_told_108 : decode cX10_told 108 = .ok (.ireturn, 1) := by decide +kernel
theorem dX10_told_109 : decode cX10_told 109 = .ok (.iconst (-1), 1) := by decide +kernel
theorem dX10_told_110 : decode cX10_told 110 = .ok (.ireturn, 1) := by decide +kernel
theorem dX10_paused_0 : decode cX10_paused 0 = .ok (.aload_n 0, 1) := by decide +kernel
theorem dX10_paused_1 : decode cX10_paused 1 = .ok (.iload_n 1, 1) := by decide +kernel
theorem dX10_paused_2 : decode cX10_paused 2 = .ok (.invokevirtual 142, 3) := by decide +kernel
theorem dX10_paused_5 : decode cX10_paused 5 = .ok (.astore_n 3, 1) := by decide +kernel
theorem dX10_paused_6 : decode cX10_paused 6 = .ok (.aload_n 3, 1) := by decide +kernel
theorem dX10_paused_7 : decode cX10_paused 7 = .ok (.ifnull 18, 3) := by decide +kernel
theorem dX10_paused_10 : decode cX10_paused 10 = .ok (.iload_n 2, 1) := by decide +kernel
theorem dX10_paused_11 : decode cX10_paused 11 = .ok (.ifCond .lt 14, 3) := by decide +kernel
theorem dX10_paused_14 : decode cX10_paused 14 = .ok (.iload_n 2, 1) := by decide +kernel
theorem dX10_paused_15 : decode cX10_paused 15 = .ok (.aload_n 3, 1) := by decide +kernel
theorem dX10_paused_16 : decode cX10_paused 16 = .ok (.getfield 146, 3) := by decide +kernel
theorem dX10_paused_19 : decode cX10_paused 19 = .ok (.getfield 115, 3) := by decide +kernel
theorem dX10_paused_22 : decode cX10_paused 22 = .ok (.if_icmp .lt 5, 3) := by decide +kernel
theorem dX10_paused_25 : decode cX10_paused 25 = .ok (.iconst (-1), 1) := by decide +kernel
theorem dX10_paused_26 : decode cX10_paused 26 = .ok (.ireturn, 1) := by decide +kernel
theorem dX10_paused_27 : decode cX10_paused 27 = .ok (.aload_n 3, 1) := by decide +kernel
theorem dX10_paused_28 : decode cX10_paused 28 = .ok (.getfield 169, 3) := by decide +kernel
theorem dX10_paused_31 : decode cX10_paused 31 = .ok (.iconst 0, 1) := by decide +kernel
theorem dX10_paused_32 : decode cX10_paused 32 = .ok (.iaload, 1) := by decide +kernel
theorem dX10_paused_33 : decode cX10_paused 33 = .ok (.iload_n 2, 1) := by decide +kernel
theorem dX10_paused_34 : decode cX10_paused 34 = .ok (.iushr, 1) := by decide +kernel
theorem dX10_paused_35 : decode cX10_paused 35 = .ok (.iconst 1, 1) := by decide +kernel
theorem dX10_paused_36 : decode cX10_paused 36 = .ok (.iand, 1) := by decide +kernel
theorem dX10_paused_37 : decode cX10_paused 37 = .ok (.ireturn, 1) := by decide +kernel
theorem dX10_keep_0 : decode cX10_keep 0 = .ok (.aload_n 0, 1) := by decide +kernel
theorem dX10_keep_1 : decode cX10_keep 1 = .ok (.iload_n 1, 1) := by decide +kernel
theorem dX10_keep_2 : decode cX10_keep 2 = .ok (.invokevirtual 142, 3) := by decide +kernel
theorem dX10_keep_5 : decode cX10_keep 5 = .ok (.astore_n 2, 1) := by decide +kernel
theorem dX10_keep_6 : decode cX10_keep 6 = .ok (.aload_n 2, 1) := by decide +kernel
theorem dX10_keep_7 : decode cX10_keep 7 = .ok (.ifnonnull 5, 3) := by decide +kernel
theorem dX10_keep_10 : decode cX10_keep 10 = .ok (.iconst (-1), 1) := by decide +kernel
theorem dX10_keep_11 : decode cX10_keep 11 = .ok (.ireturn, 1) := by decide +kernel
theorem dX10_keep_12 : decode cX10_keep 12 = .ok (.aload_n 2, 1) := by decide +kernel
theorem dX10_keep_13 : decode cX10_keep 13 = .ok (.getfield 189, 3) := by decide +kernel
theorem dX10_keep_16 : decode cX10_keep 16 = .ok (.iconst 3, 1) := by decide +kernel
theorem dX10_keep_17 : decode cX10_keep 17 = .ok (.if_icmp .lt 6, 3) := by decide +kernel
theorem dX10_keep_20 : decode cX10_keep 20 = .ok (.bipush (-3), 2) := by decide +kernel
theorem dX10_keep_22 : decode cX10_keep 22 = .ok (.ireturn, 1) := by decide +kernel
theorem dX10_keep_23 : decode cX10_keep 23 = .ok (.aload_n 2, 1) := by decide +kernel
theorem dX10_keep_24 : decode cX10_keep 24 = .ok (.invokevirtual 192, 3) := by decide +kernel
theorem dX10_keep_27 : decode cX10_keep 27 = .ok (.aload_n 2, 1) := by decide +kernel
theorem dX10_keep_28 : decode cX10_keep 28 = .ok (.getfield 189, 3) := by decide +kernel
theorem dX10_keep_31 : decode cX10_keep 31 = .ok (.ireturn, 1) := by decide +kernel
theorem dX10_back_0 : decode cX10_back 0 = .ok (.aload_n 0, 1) := by decide +kernel
theorem dX10_back_1 : decode cX10_back 1 = .ok (.iload_n 1, 1) := by decide +kernel
theorem dX10_back_2 : decode cX10_back 2 = .ok (.invokevirtual 142, 3) := by decide +kernel
theorem dX10_back_5 : decode cX10_back 5 = .ok (.astore_n 2, 1) := by decide +kernel
theorem dX10_back_6 : decode cX10_back 6 = .ok (.aload_n 2, 1) := by decide +kernel
theorem dX10_back_7 : decode cX10_back 7 = .ok (.ifnonnull 5, 3) := by decide +kernel
theorem dX10_back_10 : decode cX10_back 10 = .ok (.iconst (-1), 1) := by decide +kernel
theorem dX10_back_11 : decode cX10_back 11 = .ok (.ireturn, 1) := by decide +kernel
theorem dX10_back_12 : decode cX10_back 12 = .ok (.aload_n 2, 1) := by decide +kernel
theorem dX10_back_13 : decode cX10_back 13 = .ok (.getfield 189, 3) := by decide +kernel
theorem dX10_back_16 : decode cX10_back 16 = .ok (.ifCond .ne 6, 3) := by decide +kernel
theorem dX10_back_19 : decode cX10_back 19 = .ok (.bipush (-2), 2) := by decide +kernel
theorem dX10_back_21 : decode cX10_back 21 = .ok (.ireturn, 1) := by decide +kernel
theorem dX10_back_22 : decode cX10_back 22 = .ok (.aload_n 2, 1) := by decide +kernel
theorem dX10_back_23 : decode cX10_back 23 = .ok (.invokevirtual 195, 3) := by decide +kernel
theorem dX10_back_26 : decode cX10_back 26 = .ok (.aload_n 2, 1) := by decide +kernel
theorem dX10_back_27 : decode cX10_back 27 = .ok (.getfield 189, 3) := by decide +kernel
theorem dX10_back_30 : decode cX10_back 30 = .ok (.ireturn, 1) := by decide +kernel
theorem dX10_same_0 : decode cX10_same 0 = .ok (.aload_n 0, 1) := by decide +kernel
theorem dX10_same_1 : decode cX10_same 1 = .ok (.iload_n 1, 1) := by decide +kernel
theorem dX10_same_2 : decode cX10_same 2 = .ok (.invokevirtual 142, 3) := by decide +kernel
theorem dX10_same_5 : decode cX10_same 5 = .ok (.astore_n 3, 1) := by decide +kernel
theorem dX10_same_6 : decode cX10_same 6 = .ok (.aload_n 0, 1) := by decide +kernel
theorem dX10_same_7 : decode cX10_same 7 = .ok (.iload_n 2, 1) := by decide +kernel
theorem dX10_same_8 : decode cX10_same 8 = .ok (.invokevirtual 142, 3) := by decide +kernel
theorem dX10_same_11 : decode cX10_same 11 = .ok (.astore 4, 2) := by decide +kernel
theorem dX10_same_13 : decode cX10_same 13 = .ok (.aload_n 3, 1) := by decide +kernel
theorem dX10_same_14 : decode cX10_same 14 = .ok (.ifnull 8, 3) := by decide +kernel
theorem dX10_same_17 : decode cX10_same 17 = .ok (.aload 4, 2) := by decide +kernel
theorem dX10_same_19 : decode cX10_same 19 = .ok (.ifnonnull 5, 3) := by decide +kernel
theorem dX10_same_22 : decode cX10_same 22 = .ok (.iconst (-1), 1) := by decide +kernel
theorem dX10_same_23 : decode cX10_same 23 = .ok (.ireturn, 1) := by decide +kernel
theorem dX10_same_24 : decode cX10_same 24 = .ok (.aload_n 3, 1) := by decide +kernel
theorem dX10_same_25 : decode cX10_same 25 = .ok (.getfield 186, 3) := by decide +kernel
theorem dX10_same_28 : decode cX10_same 28 = .ok (.aload 4, 2) := by decide +kernel
theorem dX10_same_30 : decode cX10_same 30 = .ok (.getfield 186, 3) := by decide +kernel
theorem dX10_same_33 : decode cX10_same 33 = .ok (.if_icmp .eq 6, 3) := by decide +kernel
theorem dX10_same_36 : decode cX10_same 36 = .ok (.bipush (-2), 2) := by decide +kernel
theorem dX10_same_38 : decode cX10_same 38 = .ok (.ireturn, 1) := by decide +kernel
theorem dX10_same_39 : decode cX10_same 39 = .ok (.aload_n 3, 1) := by decide +kernel
theorem dX10_same_40 : decode cX10_same 40 = .ok (.aload 4, 2) := by decide +kernel
theorem dX10_same_42 : decode cX10_same 42 = .ok (.invokevirtual 198, 3) := by decide +kernel
theorem dX10_same_45 : decode cX10_same 45 = .ok (.ifCond .eq 7, 3) := by decide +kernel
theorem dX10_same_48 : decode cX10_same 48 = .ok (.iconst 1, 1) := by decide +kernel
theorem dX10_same_49 : decode cX10_same 49 = .ok (.goto 4, 3) := by decide +kernel
theorem dX10_same_52 : decode cX10_same 52 = .ok (.iconst 0, 1) := by decide +kernel
theorem dX10_same_53 : decode cX10_same 53 = .ok (.ireturn, 1) := by decide +kernel
theorem dX10_search_0 : decode cX10_search 0 = .ok (.aload_n 0, 1) := by decide +kernel
theorem dX10_search_1 : decode cX10_search 1 = .ok (.iload_n 1, 1) := by decide +kernel
theorem dX10_search_2 : decode cX10_search 2 = .ok (.invokevirtual 89, 3) := by decide +kernel
theorem dX10_search_5 : decode cX10_search 5 = .ok (.ifnonnull 5, 3) := by decide +kernel
theorem dX10_search_8 : decode cX10_search 8 = .ok (.iconst (-1), 1) := by decide +kernel
theorem dX10_search_9 : decode cX10_search 9 = .ok (.ireturn, 1) := by decide +kernel
theorem dX10_search_10 : decode cX10_search 10 = .ok (.aload_n 0, 1) := by decide +kernel
theorem dX10_search_11 : decode cX10_search 11 = .ok (.iload_n 1, 1) := by decide +kernel
theorem dX10_search_12 : decode cX10_search 12 = .ok (.invokevirtual 202, 3) := by decide +kernel
theorem dX10_search_15 : decode cX10_search 15 = .ok (.astore_n 2, 1) := by decide +kernel
theorem dX10_search_16 : decode cX10_search 16 = .ok (.aload_n 2, 1) := by decide +kernel
theorem dX10_search_17 : decode cX10_search 17 = .ok (.ifnonnull 8, 3) := by decide +kernel
theorem dX10_search_20 : decode cX10_search 20 = .ok (.bipush (-4), 2) := by decide +kernel
theorem dX10_search_22 : decode cX10_search 22 = .ok (.goto 7, 3) := by decide +kernel
theorem dX10_search_25 : decode cX10_search 25 = .ok (.aload_n 2, 1) := by decide +kernel
theorem dX10_search_26 : decode cX10_search 26 = .ok (.getfield 206, 3) := by decide +kernel
theorem dX10_search_29 : decode cX10_search 29 = .ok (.ireturn, 1) := by decide +kernel
theorem dX10_move_0 : decode cX10_move 0 = .ok (.aload_n 0, 1) := by decide +kernel
theorem dX10_move_1 : decode cX10_move 1 = .ok (.iload_n 1, 1) := by decide +kernel
theorem dX10_move_2 : decode cX10_move 2 = .ok (.invokevirtual 202, 3) := by decide +kernel
theorem dX10_move_5 : decode cX10_move 5 = .ok (.astore 5, 2) := by decide +kernel
theorem dX10_move_7 : decode cX10_move 7 = .ok (.aload 5, 2) := by decide +kernel
theorem dX10_move_9 : decode cX10_move 9 = .ok (.ifnull 25, 3) := by decide +kernel
theorem dX10_move_12 : decode cX10_move 12 = .ok (.aload 5, 2) := by decide +kernel
theorem dX10_move_14 : decode cX10_move 14 = .ok (.iload_n 2, 1) := by decide +kernel
theorem dX10_move_15 : decode cX10_move 15 = .ok (.invokevirtual 211, 3) := by decide +kernel
theorem dX10_move_18 : decode cX10_move 18 = .ok (.ifCond .eq 16, 3) := by decide +kernel
theorem dX10_move_21 : decode cX10_move 21 = .ok (.iload_n 3, 1) := by decide +kernel
theorem dX10_move_22 : decode cX10_move 22 = .ok (.ifCond .lt 12, 3) := by decide +kernel
theorem dX10_move_25 : decode cX10_move 25 = .ok (.iload_n 3, 1) := by decide +kernel
theorem dX10_move_26 : decode cX10_move 26 = .ok (.aload 5, 2) := by decide +kernel
theorem dX10_move_28 : decode cX10_move 28 = .ok (.getfield 214, 3) := by decide +kernel
theorem dX10_move_31 : decode cX10_move 31 = .ok (.if_icmp .lt 6, 3) := by decide +kernel
theorem dX10_move_34 : decode cX10_move 34 = .ok (.bipush (-9), 2) := by decide +kernel
theorem dX10_move_36 : decode cX10_move 36 = .ok (.ireturn, 1) := by decide +kernel
theorem dX10_move_37 : decode cX10_move 37 = .ok (.iload 4, 2) := by decide +kernel
theorem dX10_move_39 : decode cX10_move 39 = .ok (.ifCond .ne 19, 3) := by decide +kernel
theorem dX10_move_42 : decode cX10_move 42 = .ok (.aload 5, 2) := by decide +kernel
theorem dX10_move_44 : decode cX10_move 44 = .ok (.getfield 217, 3) := by decide +kernel
theorem dX10_move_47 : decode cX10_move 47 = .ok (.iload_n 2, 1) := by decide +kernel
theorem dX10_move_48 : decode cX10_move 48 = .ok (.aload 5, 2) := by decide +kernel
theorem dX10_move_50 : decode cX10_move 50 = .ok (.getfield 214, 3) := by decide +kernel
theorem dX10_move_53 : decode cX10_move 53 = .ok (.imul, 1) := by decide +kernel
theorem dX10_move_54 : decode cX10_move 54 = .ok (.iload_n 3, 1) := by decide +kernel
theorem dX10_move_55 : decode cX10_move 55 = .ok (.iadd, 1) := by decide +kernel
theorem dX10_move_56 : decode cX10_move 56 = .ok (.iaload, 1) := by decide +kernel
theorem dX10_move_57 : decode cX10_move 57 = .ok (.ireturn, 1) := by decide +kernel
theorem dX10_move_58 : decode cX10_move 58 = .ok (.iload 4, 2) := by decide +kernel
theorem dX10_move_60 : decode cX10_move 60 = .ok (.iconst 1, 1) := by decide +kernel
theorem dX10_move_61 : decode cX10_move 61 = .ok (.if_icmp .ne 21, 3) := by decide +kernel
theorem dX10_move_64 : decode cX10_move 64 = .ok (.aload 5, 2) := by decide +kernel
theorem dX10_move_66 : decode cX10_move 66 = .ok (.getfield 220, 3) := by decide +kernel
theorem dX10_move_69 : decode cX10_move 69 = .ok (.iload_n 2, 1) := by decide +kernel
theorem dX10_move_70 : decode cX10_move 70 = .ok (.aload 5, 2) := by decide +kernel
theorem dX10_move_72 : decode cX10_move 72 = .ok (.getfield 214, 3) := by decide +kernel
theorem dX10_move_75 : decode cX10_move 75 = .ok (.imul, 1) := by decide +kernel
theorem dX10_move_76 : decode cX10_move 76 = .ok (.iload_n 3, 1) := by decide +kernel
theorem dX10_move_77 : decode cX10_move 77 = .ok (.iadd, 1) := by decide +kernel
theorem dX10_move_78 : decode cX10_move 78 = .ok (.iaload, 1) := by decide +kernel
theorem dX10_move_79 : decode cX10_move 79 = .ok (.goto 5, 3) := by decide +kernel
theorem dX10_move_82 : decode cX10_move 82 = .ok (.bipush (-9), 2) := by decide +kernel
theorem dX10_move_84 : decode cX10_move 84 = .ok (.ireturn, 1) := by decide +kernel
theorem dX10_classOf_0 : decode cX10_classOf 0 = .ok (.aload_n 0, 1) := by decide +kernel
theorem dX10_classOf_1 : decode cX10_classOf 1 = .ok (.iload_n 1, 1) := by decide +kernel
theorem dX10_classOf_2 : decode cX10_classOf 2 = .ok (.invokevirtual 202, 3) := by decide +kernel
theorem dX10_classOf_5 : decode cX10_classOf 5 = .ok (.astore_n 3, 1) := by decide +kernel
theorem dX10_classOf_6 : decode cX10_classOf 6 = .ok (.aload_n 3, 1) := by decide +kernel
theorem dX10_classOf_7 : decode cX10_classOf 7 = .ok (.ifnull 11, 3) := by decide +kernel
theorem dX10_classOf_10 : decode cX10_classOf 10 = .ok (.aload_n 3, 1) := by decide +kernel
theorem dX10_classOf_11 : decode cX10_classOf 11 = .ok (.iload_n 2, 1) := by decide +kernel
theorem dX10_classOf_12 : decode cX10_classOf 12 = .ok (.invokevirtual 211, 3) := by decide +kernel
theorem dX10_classOf_15 : decode cX10_classOf 15 = .ok (.ifCond .ne 6, 3) := by decide +kernel
theorem dX10_classOf_18 : decode cX10_classOf 18 = .ok (.bipush (-9), 2) := by decide +kernel
theorem dX10_classOf_20 : decode cX10_classOf 20 = .ok (.ireturn, 1) := by decide +kernel
theorem dX10_classOf_21 : decode cX10_classOf 21 = .ok (.aload_n 3, 1) := by decide +kernel
theorem dX10_classOf_22 : decode cX10_classOf 22 = .ok (.getfield 222, 3) := by decide +kernel
theorem dX10_classOf_25 : decode cX10_classOf 25 = .ok (.iload_n 2, 1) := by decide +kernel
theorem dX10_classOf_26 : decode cX10_classOf 26 = .ok (.iaload, 1) := by decide +kernel
theorem dX10_classOf_27 : decode cX10_classOf 27 = .ok (.ireturn, 1) := by decide +kernel
theorem dX10_way_0 : decode cX10_way 0 = .ok (.aload_n 0, 1) := by decide +kernel
theorem dX10_way_1 : decode cX10_way 1 = .ok (.iload_n 1, 1) := by decide +kernel
theorem dX10_way_2 : decode cX10_way 2 = .ok (.invokevirtual 202, 3) := by decide +kernel
theorem dX10_way_5 : decode cX10_way 5 = .ok (.astore 4, 2) := by decide +kernel
theorem dX10_way_7 : decode cX10_way 7 = .ok (.aload 4, 2) := by decide +kernel
theorem dX10_way_9 : decode cX10_way 9 = .ok (.ifnull 12, 3) := by decide +kernel
theorem dX10_way_12 : decode cX10_way 12 = .ok (.aload 4, 2) := by decide +kernel
theorem dX10_way_14 : decode cX10_way 14 = .ok (.iload_n 2, 1) := by decide +kernel
theorem dX10_way_15 : decode cX10_way 15 = .ok (.invokevirtual 211, 3) := by decide +kernel
theorem dX10_way_18 : decode cX10_way 18 = .ok (.ifCond .ne 6, 3) := by decide +kernel
theorem dX10_way_21 : decode cX10_way 21 = .ok (.bipush (-9), 2) := by decide +kernel
theorem dX10_way_23 : decode cX10_way 23 = .ok (.ireturn, 1) := by decide +kernel
theorem dX10_way_24 : decode cX10_way 24 = .ok (.aload 4, 2) := by decide +kernel
theorem dX10_way_26 : decode cX10_way 26 = .ok (.iload_n 2, 1) := by decide +kernel
theorem dX10_way_27 : decode cX10_way 27 = .ok (.invokevirtual 225, 3) := by decide +kernel
theorem dX10_way_30 : decode cX10_way 30 = .ok (.istore 5, 2) := by decide +kernel
theorem dX10_way_32 : decode cX10_way 32 = .ok (.iload_n 3, 1) := by decide +kernel
theorem dX10_way_33 : decode cX10_way 33 = .ok (.iconst (-1), 1) := by decide +kernel
theorem dX10_way_34 : decode cX10_way 34 = .ok (.if_icmp .ne 6, 3) := by decide +kernel
theorem dX10_way_37 : decode cX10_way 37 = .ok (.iload 5, 2) := by decide +kernel
theorem dX10_way_39 : decode cX10_way 39 = .ok (.ireturn, 1) := by decide +kernel
theorem dX10_way_40 : decode cX10_way 40 = .ok (.iload_n 3, 1) := by decide +kernel
theorem dX10_way_41 : decode cX10_way 41 = .ok (.ifCond .lt 9, 3) := by decide +kernel
theorem dX10_way_44 : decode cX10_way 44 = .ok (.iload_n 3, 1) := by decide +kernel
theorem dX10_way_45 : decode cX10_way 45 = .ok (.iload 5, 2) := by decide +kernel
theorem dX10_way_47 : decode cX10_way 47 = .ok (.if_icmp .lt 8, 3) := by decide +kernel
theorem dX10_way_50 : decode cX10_way 50 = .ok (.bipush (-9), 2) := by decide +kernel
theorem dX10_way_52 : decode cX10_way 52 = .ok (.goto 15, 3) := by decide +kernel
theorem dX10_way_55 : decode cX10_way 55 = .ok (.aload 4, 2) := by decide +kernel
theorem dX10_way_57 : decode cX10_way 57 = .ok (.iload_n 2, 1) := by decide +kernel
theorem dX10_way_58 : decode cX10_way 58 = .ok (.iload 5, 2) := by decide +kernel
theorem dX10_way_60 : decode cX10_way 60 = .ok (.iconst 1, 1) := by decide +kernel
theorem dX10_way_61 : decode cX10_way 61 = .ok (.isub, 1) := by decide +kernel
theorem dX10_way_62 : decode cX10_way 62 = .ok (.iload_n 3, 1) := by decide +kernel
theorem dX10_way_63 : decode cX10_way 63 = .ok (.isub, 1) := by decide +kernel
theorem dX10_way_64 : decode cX10_way 64 = .ok (.invokevirtual 228, 3) := by decide +kernel
theorem dX10_way_67 : decode cX10_way 67 = .ok (.ireturn, 1) := by decide +kernel
theorem dX10_never_0 : decode cX10_never 0 = .ok (.aload_n 0, 1) := by decide +kernel
theorem dX10_never_1 : decode cX10_never 1 = .ok (.iload_n 1, 1) := by decide +kernel
theorem dX10_never_2 : decode cX10_never 2 = .ok (.invokevirtual 202, 3) := by decide +kernel
theorem dX10_never_5 : decode cX10_never 5 = .ok (.astore_n 3, 1) := by decide +kernel
theorem dX10_never_6 : decode cX10_never 6 = .ok (.aload_n 3, 1) := by decide +kernel
theorem dX10_never_7 : decode cX10_never 7 = .ok (.ifnull 14, 3) := by decide +kernel
theorem dX10_never_10 : decode cX10_never 10 = .ok (.aload_n 3, 1) := by decide +kernel
theorem dX10_never_11 : decode cX10_never 11 = .ok (.getfield 231, 3) := by decide +kernel
theorem dX10_never_14 : decode cX10_never 14 = .ok (.iload_n 2, 1) := by decide +kernel
theorem dX10_never_15 : decode cX10_never 15 = .ok (.invokevirtual 163, 3) := by decide +kernel
theorem dX10_never_18 : decode cX10_never 18 = .ok (.ifCond .ne 6, 3) := by decide +kernel
theorem dX10_never_21 : decode cX10_never 21 = .ok (.bipush (-9), 2) := by decide +kernel
theorem dX10_never_23 : decode cX10_never 23 = .ok (.ireturn, 1) := by decide +kernel
theorem dX10_never_24 : decode cX10_never 24 = .ok (.aload_n 0, 1) := by decide +kernel
theorem dX10_never_25 : decode cX10_never 25 = .ok (.aload_n 3, 1) := by decide +kernel
theorem dX10_never_26 : decode cX10_never 26 = .ok (.iconst 1, 1) := by decide +kernel
theorem dX10_never_27 : decode cX10_never 27 = .ok (.iload_n 2, 1) := by decide +kernel
theorem dX10_never_28 : decode cX10_never 28 = .ok (.ishl, 1) := by decide +kernel
theorem dX10_never_29 : decode cX10_never 29 = .ok (.iconst 0, 1) := by decide +kernel
theorem dX10_never_30 : decode cX10_never 30 = .ok (.invokevirtual 232, 3) := by decide +kernel
theorem dX10_never_33 : decode cX10_never 33 = .ok (.invokevirtual 235, 3) := by decide +kernel
theorem dX10_never_36 : decode cX10_never 36 = .ok (.ireturn, 1) := by decide +kernel
theorem dX10_always_0 : decode cX10_always 0 = .ok (.aload_n 0, 1) := by decide +kernel
theorem dX10_always_1 : decode cX10_always 1 = .ok (.iload_n 1, 1) := by decide +kernel
theorem dX10_always_2 : decode cX10_always 2 = .ok (.invokevirtual 202, 3) := by decide +kernel
theorem dX10_always_5 : decode cX10_always 5 = .ok (.astore 4, 2) := by decide +kernel
theorem dX10_always_7 : decode cX10_always 7 = .ok (.aload 4, 2) := by decide +kernel
theorem dX10_always_9 : decode cX10_always 9 = .ok (.ifnull 27, 3) := by decide +kernel
theorem dX10_always_12 : decode cX10_always 12 = .ok (.aload 4, 2) := by decide +kernel
theorem dX10_always_14 : decode cX10_always 14 = .ok (.getfield 231, 3) := by decide +kernel
theorem dX10_always_17 : decode cX10_always 17 = .ok (.iload_n 2, 1) := by decide +kernel
theorem dX10_always_18 : decode cX10_always 18 = .ok (.invokevirtual 163, 3) := by decide +kernel
theorem dX10_always_21 : decode cX10_always 21 = .ok (.ifCond .eq 15, 3) := by decide +kernel
theorem dX10_always_24 : decode cX10_always 24 = .ok (.aload 4, 2) := by decide +kernel
theorem dX10_always_26 : decode cX10_always 26 = .ok (.getfield 231, 3) := by decide +kernel
theorem dX10_always_29 : decode cX10_always 29 = .ok (.iload_n 3, 1) := by decide +kernel
theorem dX10_always_30 : decode cX10_always 30 = .ok (.invokevirtual 163, 3) := by decide +kernel
theorem dX10_always_33 : decode cX10_always 33 = .ok (.ifCond .ne 6, 3) := by decide +kernel
theorem dX10_always_36 : decode cX10_always 36 = .ok (.bipush (-9), 2) := by decide +kernel
theorem dX10_always_38 : decode cX10_always 38 = .ok (.ireturn, 1) := by decide +kernel
theorem dX10_always_39 : decode cX10_always 39 = .ok (.aload_n 0, 1) := by decide +kernel
theorem dX10_always_40 : decode cX10_always 40 = .ok (.aload 4, 2) := by decide +kernel
theorem dX10_always_42 : decode cX10_always 42 = .ok (.iconst 1, 1) := by decide +kernel
theorem dX10_always_43 : decode cX10_always 43 = .ok (.iload_n 2, 1) := by decide +kernel
theorem dX10_always_44 : decode cX10_always 44 = .ok (.ishl, 1) := by decide +kernel
theorem dX10_always_45 : decode cX10_always 45 = .ok (.iconst 1, 1) := by decide +kernel
theorem dX10_always_46 : decode cX10_always 46 = .ok (.iload_n 3, 1) := by decide +kernel
theorem dX10_always_47 : decode cX10_always 47 = .ok (.ishl, 1) := by decide +kernel
theorem dX10_always_48 : decode cX10_always 48 = .ok (.invokevirtual 232, 3) := by decide +kernel
theorem dX10_always_51 : decode cX10_always 51 = .ok (.invokevirtual 235, 3) := by decide +kernel
theorem dX10_always_54 : decode cX10_always 54 = .ok (.ireturn, 1) := by decide +kernel
theorem dX10_judge_0 : decode cX10_judge 0 = .ok (.iload_n 1, 1) := by decide +kernel
theorem dX10_judge_1 : decode cX10_judge 1 = .ok (.iconst (-1), 1) := by decide +kernel
theorem dX10_judge_2 : decode cX10_judge 2 = .ok (.if_icmp .ne 5, 3) := by decide +kernel
theorem dX10_judge_5 : decode cX10_judge 5 = .ok (.iconst 1, 1) := by decide +kernel
theorem dX10_judge_6 : decode cX10_judge 6 = .ok (.ireturn, 1) := by decide +kernel
theorem dX10_judge_7 : decode cX10_judge 7 = .ok (.aload_n 0, 1) := by decide +kernel
theorem dX10_judge_8 : decode cX10_judge 8 = .ok (.iload_n 1, 1) := by decide +kernel
theorem dX10_judge_9 : decode cX10_judge 9 = .ok (.bipush 32, 2) := by decide +kernel
theorem dX10_judge_11 : decode cX10_judge 11 = .ok (.idiv, 1) := by decide +kernel
theorem dX10_judge_12 : decode cX10_judge 12 = .ok (.putfield 44, 3) := by decide +kernel
theorem dX10_judge_15 : decode cX10_judge 15 = .ok (.aload_n 0, 1) := by decide +kernel
theorem dX10_judge_16 : decode cX10_judge 16 = .ok (.iload_n 1, 1) := by decide +kernel
theorem dX10_judge_17 : decode cX10_judge 17 = .ok (.bipush 32, 2) := by decide +kernel
theorem dX10_judge_19 : decode cX10_judge 19 = .ok (.irem, 1) := by decide +kernel
theorem dX10_judge_20 : decode cX10_judge 20 = .ok (.putfield 48, 3) := by decide +kernel
theorem dX10_judge_23 : decode cX10_judge 23 = .ok (.iconst 0, 1) := by decide +kernel
theorem dX10_judge_24 : decode cX10_judge 24 = .ok (.ireturn, 1) := by decide +kernel
theorem dX10_against_0 : decode cX10_against 0 = .ok (.iload_n 1, 1) := by decide +kernel
theorem dX10_against_1 : decode cX10_against 1 = .ok (.ifCond .ne 8, 3) := by decide +kernel
theorem dX10_against_4 : decode cX10_against 4 = .ok (.aload_n 0, 1) := by decide +kernel
theorem dX10_against_5 : decode cX10_against 5 = .ok (.getfield 44, 3) := by decide +kernel
theorem dX10_against_8 : decode cX10_against 8 = .ok (.ireturn, 1) := by decide +kernel
theorem dX10_against_9 : decode cX10_against 9 = .ok (.iload_n 1, 1) := by decide +kernel
theorem dX10_against_10 : decode cX10_against 10 = .ok (.iconst 1, 1) := by decide +kernel
theorem dX10_against_11 : decode cX10_against 11 = .ok (.if_icmp .ne 10, 3) := by decide +kernel
theorem dX10_against_14 : decode cX10_against 14 = .ok (.aload_n 0, 1) := by decide +kernel
theorem dX10_against_15 : decode cX10_against 15 = .ok (.getfield 48, 3) := by decide +kernel
theorem dX10_against_18 : decode cX10_against 18 = .ok (.goto 4, 3) := by decide +kernel
theorem dX10_against_21 : decode cX10_against 21 = .ok (.iconst (-1), 1) := by decide +kernel
theorem dX10_against_22 : decode cX10_against 22 = .ok (.ireturn, 1) := by decide +kernel
theorem dX10_count_0 : decode cX10_count 0 = .ok (.iload_n 1, 1) := by decide +kernel
theorem dX10_count_1 : decode cX10_count 1 = .ok (.tableswitch 48 0 2 #[27, 35, 43], 27) := by decide +kernel
theorem dX10_count_28 : decode cX10_count 28 = .ok (.aload_n 0, 1) := by decide +kernel
theorem dX10_count_29 : decode cX10_count 29 = .ok (.getfield 16, 3) := by decide +kernel
theorem dX10_count_32 : decode cX10_count 32 = .ok (.invokevirtual 58, 3) := by decide +kernel
theorem dX10_count_35 : decode cX10_count 35 = .ok (.ireturn, 1) := by decide +kernel
theorem dX10_count_36 : decode cX10_count 36 = .ok (.aload_n 0, 1) := by decide +kernel
theorem dX10_count_37 : decode cX10_count 37 = .ok (.getfield 20, 3) := by decide +kernel
theorem dX10_count_40 : decode cX10_count 40 = .ok (.invokevirtual 58, 3) := by decide +kernel
theorem dX10_count_43 : decode cX10_count 43 = .ok (.ireturn, 1) := by decide +kernel
theorem dX10_count_44 : decode cX10_count 44 = .ok (.aload_n 0, 1) := by decide +kernel
theorem dX10_count_45 : decode cX10_count 45 = .ok (.getfield 51, 3) := by decide +kernel
theorem dX10_count_48 : decode cX10_count 48 = .ok (.ireturn, 1) := by decide +kernel
theorem dX10_count_49 : decode cX10_count 49 = .ok (.iconst (-1), 1) := by decide +kernel
theorem dX10_count_50 : decode cX10_count 50 = .ok (.ireturn, 1) := by decide +kernel
theorem dX10_clear_0 : decode cX10_clear 0 = .ok (.aload_n 0, 1) := by decide +kernel
theorem dX10_clear_1 : decode cX10_clear 1 = .ok (.getfield 16, 3) := by decide +kernel
theorem dX10_clear_4 : decode cX10_clear 4 = .ok (.invokevirtual 58, 3) := by decide +kernel
theorem dX10_clear_7 : decode cX10_clear 7 = .ok (.istore_n 1, 1) := by decide +kernel
theorem dX10_clear_8 : decode cX10_clear 8 = .ok (.aload_n 0, 1) := by decide +kernel
theorem dX10_clear_9 : decode cX10_clear 9 = .ok (.getfield 16, 3) := by decide +kernel
theorem dX10_clear_12 : decode cX10_clear 12 = .ok (.invokevirtual 238, 3) := by decide +kernel
theorem dX10_clear_15 : decode cX10_clear 15 = .ok (.aload_n 0, 1) := by decide +kernel
theorem dX10_clear_16 : decode cX10_clear 16 = .ok (.getfield 20, 3) := by decide +kernel
theorem dX10_clear_19 : decode cX10_clear 19 = .ok (.invokevirtual 238, 3) := by decide +kernel
theorem dX10_clear_22 : decode cX10_clear 22 = .ok (.iload_n 1, 1) := by decide +kernel
theorem dX10_clear_23 : decode cX10_clear 23 = .ok (.ireturn, 1) := by decide +kernel
theorem dX10_moduleAt_0 : decode cX10_moduleAt 0 = .ok (.iload_n 1, 1) := by decide +kernel
theorem dX10_moduleAt_1 : decode cX10_moduleAt 1 = .ok (.ifCond .lt 14, 3) := by decide +kernel
theorem dX10_moduleAt_4 : decode cX10_moduleAt 4 = .ok (.iload_n 1, 1) := by decide +kernel
theorem dX10_moduleAt_5 : decode cX10_moduleAt 5 = .ok (.aload_n 0, 1) := by decide +kernel
theorem dX10_moduleAt_6 : decode cX10_moduleAt 6 = .ok (.getfield 16, 3) := by decide +kernel
theorem dX10_moduleAt_9 : decode cX10_moduleAt 9 = .ok (.invokevirtual 58, 3) := by decide +kernel
theorem dX10_moduleAt_12 : decode cX10_moduleAt 12 = .ok (.if_icmp .lt 7, 3) := by decide +kernel
theorem dX10_moduleAt_15 : decode cX10_moduleAt 15 = .ok (.aconst_null, 1) := by decide +kernel
theorem dX10_moduleAt_16 : decode cX10_moduleAt 16 = .ok (.goto 14, 3) := by decide +kernel
theorem dX10_moduleAt_19 : decode cX10_moduleAt 19 = .ok (.aload_n 0, 1) := by decide +kernel
theorem dX10_moduleAt_20 : decode cX10_moduleAt 20 = .ok (.getfield 16, 3) := by decide +kernel
theorem dX10_moduleAt_23 : decode cX10_moduleAt 23 = .ok (.iload_n 1, 1) := by decide +kernel
theorem dX10_moduleAt_24 : decode cX10_moduleAt 24 = .ok (.invokevirtual 128, 3) := by decide +kernel
theorem dX10_moduleAt_27 : decode cX10_moduleAt 27 = .ok (.checkcast 93, 3) := by decide +kernel
theorem dX10_moduleAt_30 : decode cX10_moduleAt 30 = .ok (.areturn, 1) := by decide +kernel
theorem dX10_governorAt_0 : decode cX10_governorAt 0 = .ok (.iload_n 1, 1) := by decide +kernel
theorem dX10_governorAt_1 : decode cX10_governorAt 1 = .ok (.ifCond .lt 14, 3) := by decide +kernel
theorem dX10_governorAt_4 : decode cX10_governorAt 4 = .ok (.iload_n 1, 1) := by decide +kernel
theorem dX10_governorAt_5 : decode cX10_governorAt 5 = .ok (.aload_n 0, 1) := by decide +kernel
theorem dX10_governorAt_6 : decode cX10_governorAt 6 = .ok (.getfield 20, 3) := by decide +kernel
theorem dX10_governorAt_9 : decode cX10_governorAt 9 = .ok (.invokevirtual 58, 3) := by decide +kernel
theorem dX10_governorAt_12 : decode cX10_governorAt 12 = .ok (.if_icmp .lt 7, 3) := by decide +kernel
theorem dX10_governorAt_15 : decode cX10_governorAt 15 = .ok (.aconst_null, 1) := by decide +kernel
theorem dX10_governorAt_16 : decode cX10_governorAt 16 = .ok (.goto 14, 3) := by decide +kernel
theorem dX10_governorAt_19 : decode cX10_governorAt 19 = .ok (.aload_n 0, 1) := by decide +kernel
theorem dX10_governorAt_20 : decode cX10_governorAt 20 = .ok (.getfield 20, 3) := by decide +kernel
theorem dX10_governorAt_23 : decode cX10_governorAt 23 = .ok (.iload_n 1, 1) := by decide +kernel
theorem dX10_governorAt_24 : decode cX10_governorAt 24 = .ok (.invokevirtual 128, 3) := by decide +kernel
theorem dX10_governorAt_27 : decode cX10_governorAt 27 = .ok (.checkcast 137, 3) := by decide +kernel
theorem dX10_governorAt_30 : decode cX10_governorAt 30 = .ok (.areturn, 1) := by decide +kernel
theorem dX10_searchOf_0 : decode cX10_searchOf 0 = .ok (.aload_n 0, 1) := by decide +kernel
theorem dX10_searchOf_1 : decode cX10_searchOf 1 = .ok (.iload_n 1, 1) := by decide +kernel
theorem dX10_searchOf_2 : decode cX10_searchOf 2 = .ok (.invokevirtual 89, 3) := by decide +kernel
theorem dX10_searchOf_5 : decode cX10_searchOf 5 = .ok (.astore_n 2, 1) := by decide +kernel
theorem dX10_searchOf_6 : decode cX10_searchOf 6 = .ok (.aload_n 2, 1) := by decide +kernel
theorem dX10_searchOf_7 : decode cX10_searchOf 7 = .ok (.ifnonnull 5, 3) := by decide +kernel
theorem dX10_searchOf_10 : decode cX10_searchOf 10 = .ok (.aconst_null, 1) := by decide +kernel
theorem dX10_searchOf_11 : decode cX10_searchOf 11 = .ok (.areturn, 1) := by decide +kernel
theorem dX10_searchOf_12 : decode cX10_searchOf 12 = .ok (.aload_n 2, 1) := by decide +kernel
theorem dX10_searchOf_13 : decode cX10_searchOf 13 = .ok (.getfield 241, 3) := by decide +kernel
theorem dX10_searchOf_16 : decode cX10_searchOf 16 = .ok (.ifnonnull 22, 3) := by decide +kernel
theorem dX10_searchOf_19 : decode cX10_searchOf 19 = .ok (.aload_n 2, 1) := by decide +kernel
theorem dX10_searchOf_20 : decode cX10_searchOf 20 = .ok (.new 207, 3) := by decide +kernel
theorem dX10_searchOf_23 : decode cX10_searchOf 23 = .ok (.dup, 1) := by decide +kernel
theorem dX10_searchOf_24 : decode cX10_searchOf 24 = .ok (.aload_n 2, 1) := by decide +kernel
theorem dX10_searchOf_25 : decode cX10_searchOf 25 = .ok (.invokespecial 245, 3) := by decide +kernel
theorem dX10_searchOf_28 : decode cX10_searchOf 28 = .ok (.putfield 241, 3) := by decide +kernel
theorem dX10_searchOf_31 : decode cX10_searchOf 31 = .ok (.aload_n 2, 1) := by decide +kernel
theorem dX10_searchOf_32 : decode cX10_searchOf 32 = .ok (.getfield 241, 3) := by decide +kernel
theorem dX10_searchOf_35 : decode cX10_searchOf 35 = .ok (.invokevirtual 247, 3) := by decide +kernel
theorem dX10_searchOf_38 : decode cX10_searchOf 38 = .ok (.aload_n 2, 1) := by decide +kernel
theorem dX10_searchOf_39 : decode cX10_searchOf 39 = .ok (.getfield 241, 3) := by decide +kernel
theorem dX10_searchOf_42 : decode cX10_searchOf 42 = .ok (.getfield 250, 3) := by decide +kernel
theorem dX10_searchOf_45 : decode cX10_searchOf 45 = .ok (.ifCond .eq 7, 3) := by decide +kernel
theorem dX10_searchOf_48 : decode cX10_searchOf 48 = .ok (.aconst_null, 1) := by decide +kernel
theorem dX10_searchOf_49 : decode cX10_searchOf 49 = .ok (.goto 7, 3) := by decide +kernel
theorem dX10_searchOf_52 : decode cX10_searchOf 52 = .ok (.aload_n 2, 1) := by decide +kernel
theorem dX10_searchOf_53 : decode cX10_searchOf 53 = .ok (.getfield 241, 3) := by decide +kernel
theorem dX10_searchOf_56 : decode cX10_searchOf 56 = .ok (.areturn, 1) := by decide +kernel
