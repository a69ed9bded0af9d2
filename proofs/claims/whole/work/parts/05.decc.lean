theorem dX8_init_0 : decode cX8_init 0 = .ok (.aload_n 0, 1) := by decide +kernel
theorem dX8_init_1 : decode cX8_init 1 = .ok (.invokespecial 1, 3) := by decide +kernel
theorem dX8_init_4 : decode cX8_init 4 = .ok (.aload_n 0, 1) := by decide +kernel
theorem dX8_init_5 : decode cX8_init 5 = .ok (.iconst 5, 1) := by decide +kernel
theorem dX8_init_6 : decode cX8_init 6 = .ok (.newarray .int, 2) := by decide +kernel
theorem dX8_init_8 : decode cX8_init 8 = .ok (.putfield 7, 3) := by decide +kernel
theorem dX8_init_11 : decode cX8_init 11 = .ok (.aload_n 0, 1) := by decide +kernel
theorem dX8_init_12 : decode cX8_init 12 = .ok (.bipush 30, 2) := by decide +kernel
theorem dX8_init_14 : decode cX8_init 14 = .ok (.newarray .int, 2) := by decide +kernel
theorem dX8_init_16 : decode cX8_init 16 = .ok (.putfield 13, 3) := by decide +kernel
theorem dX8_init_19 : decode cX8_init 19 = .ok (.aload_n 0, 1) := by decide +kernel
theorem dX8_init_20 : decode cX8_init 20 = .ok (.bipush 20, 2) := by decide +kernel
theorem dX8_init_22 : decode cX8_init 22 = .ok (.newarray .int, 2) := by decide +kernel
theorem dX8_init_24 : decode cX8_init 24 = .ok (.putfield 16, 3) := by decide +kernel
theorem dX8_init_27 : decode cX8_init 27 = .ok (.aload_n 0, 1) := by decide +kernel
theorem dX8_init_28 : decode cX8_init 28 = .ok (.bipush 20, 2) := by decide +kernel
theorem dX8_init_30 : decode cX8_init 30 = .ok (.newarray .int, 2) := by decide +kernel
theorem dX8_init_32 : decode cX8_init 32 = .ok (.putfield 19, 3) := by decide +kernel
theorem dX8_init_35 : decode cX8_init 35 = .ok (.aload_n 0, 1) := by decide +kernel
theorem dX8_init_36 : decode cX8_init 36 = .ok (.bipush 32, 2) := by decide +kernel
theorem dX8_init_38 : decode cX8_init 38 = .ok (.newarray .int, 2) := by decide +kernel
theorem dX8_init_40 : decode cX8_init 40 = .ok (.putfield 22, 3) := by decide +kernel
theorem dX8_init_43 : decode cX8_init 43 = .ok (.aload_n 0, 1) := by decide +kernel
theorem dX8_init_44 : decode cX8_init 44 = .ok (.bipush 32, 2) := by decide +kernel
theorem dX8_init_46 : decode cX8_init 46 = .ok (.newarray .int, 2) := by decide +kernel
theorem dX8_init_48 : decode cX8_init 48 = .ok (.putfield 25, 3) := by decide +kernel
theorem dX8_init_51 : decode cX8_init 51 = .ok (.aload_n 0, 1) := by decide +kernel
theorem dX8_init_52 : decode cX8_init 52 = .ok (.bipush 32, 2) := by decide +kernel
theorem dX8_init_54 : decode cX8_init 54 = .ok (.newarray .int, 2) := by decide +kernel
theorem dX8_init_56 : decode cX8_init 56 = .ok (.putfield 28, 3) := by decide +kernel
theorem dX8_init_59 : decode cX8_init 59 = .ok (.aload_n 0, 1) := by decide +kernel
theorem dX8_init_60 : decode cX8_init 60 = .ok (.bipush 32, 2) := by decide +kernel
theorem dX8_init_62 : decode cX8_init 62 = .ok (.newarray .int, 2) := by decide +kernel
theorem dX8_init_64 : decode cX8_init 64 = .ok (.putfield 31, 3) := by decide +kernel
theorem dX8_init_67 : decode cX8_init 67 = .ok (.aload_n 0, 1) := by decide +kernel
theorem dX8_init_68 : decode cX8_init 68 = .ok (.sipush 640, 3) := by decide +kernel
theorem dX8_init_71 : decode cX8_init 71 = .ok (.newarray .int, 2) := by decide +kernel
theorem dX8_init_73 : decode cX8_init 73 = .ok (.putfield 34, 3) := by decide +kernel
theorem dX8_init_76 : decode cX8_init 76 = .ok (.aload_n 0, 1) := by decide +kernel
theorem dX8_init_77 : decode cX8_init 77 = .ok (.sipush 400, 3) := by decide +kernel
theorem dX8_init_80 : decode cX8_init 80 = .ok (.newarray .int, 2) := by decide +kernel
theorem dX8_init_82 : decode cX8_init 82 = .ok (.putfield 37, 3) := by decide +kernel
theorem dX8_init_85 : decode cX8_init 85 = .ok (.aload_n 0, 1) := by decide +kernel
theorem dX8_init_86 : decode cX8_init 86 = .ok (.iconst (-1), 1) := by decide +kernel
theorem dX8_init_87 : decode cX8_init 87 = .ok (.putfield 40, 3) := by decide +kernel
theorem dX8_init_90 : decode cX8_init 90 = .ok (.aload_n 0, 1) := by decide +kernel
theorem dX8_init_91 : decode cX8_init 91 = .ok (.iconst 5, 1) := by decide +kernel
theorem dX8_init_92 : decode cX8_init 92 = .ok (.newarray .int, 2) := by decide +kernel
theorem dX8_init_94 : decode cX8_init 94 = .ok (.putfield 44, 3) := by decide +kernel
theorem dX8_init_97 : decode cX8_init 97 = .ok (.aload_n 0, 1) := by decide +kernel
theorem dX8_init_98 : decode cX8_init 98 = .ok (.bipush 20, 2) := by decide +kernel
theorem dX8_init_100 : decode cX8_init 100 = .ok (.newarray .int, 2) := by decide +kernel
theorem dX8_init_102 : decode cX8_init 102 = .ok (.putfield 47, 3) := by decide +kernel
theorem dX8_init_105 : decode cX8_init 105 = .ok (.aload_n 0, 1) := by decide +kernel
theorem dX8_init_106 : decode cX8_init 106 = .ok (.bipush 20, 2) := by decide +kernel
theorem dX8_init_108 : decode cX8_init 108 = .ok (.newarray .int, 2) := by decide +kernel
theorem dX8_init_110 : decode cX8_init 110 = .ok (.putfield 50, 3) := by decide +kernel
theorem dX8_init_113 : decode cX8_init 113 = .ok (.aload_n 0, 1) := by decide +kernel
theorem dX8_init_114 : decode cX8_init 114 = .ok (.bipush 30, 2) := by decide +kernel
theorem dX8_init_116 : decode cX8_init 116 = .ok (.newarray .int, 2) := by decide +kernel
theorem dX8_init_118 : decode cX8_init 118 = .ok (.putfield 53, 3) := by decide +kernel
theorem dX8_init_121 : decode cX8_init 121 = .ok (.aload_n 0, 1) := by decide +kernel
theorem dX8_init_122 : decode cX8_init 122 = .ok (.iconst 5, 1) := by decide +kernel
theorem dX8_init_123 : decode cX8_init 123 = .ok (.newarray .int, 2) := by decide +kernel
theorem dX8_init_125 : decode cX8_init 125 = .ok (.putfield 56, 3) := by decide +kernel
theorem dX8_init_128 : decode cX8_init 128 = .ok (.aload_n 0, 1) := by decide +kernel
theorem dX8_init_129 : decode cX8_init 129 = .ok (.bipush 32, 2) := by decide +kernel
theorem dX8_init_131 : decode cX8_init 131 = .ok (.newarray .int, 2) := by decide +kernel
theorem dX8_init_133 : decode cX8_init 133 = .ok (.putfield 59, 3) := by decide +kernel
theorem dX8_init_136 : decode cX8_init 136 = .ok (.aload_n 0, 1) := by decide +kernel
theorem dX8_init_137 : decode cX8_init 137 = .ok (.iconst 5, 1) := by decide +kernel
theorem dX8_init_138 : decode cX8_init 138 = .ok (.newarray .int, 2) := by decide +kernel
theorem dX8_init_140 : decode cX8_init 140 = .ok (.putfield 62, 3) := by decide +kernel
theorem dX8_init_143 : decode cX8_init 143 = .ok (.aload_n 0, 1) := by decide +kernel
theorem dX8_init_144 : decode cX8_init 144 = .ok (.iconst 5, 1) := by decide +kernel
theorem dX8_init_145 : decode cX8_init 145 = .ok (.newarray .int, 2) := by decide +kernel
theorem dX8_init_147 : decode cX8_init 147 = .ok (.putfield 65, 3) := by decide +kernel
theorem dX8_init_150 : decode cX8_init 150 = .ok (.aload_n 0, 1) := by decide +kernel
theorem dX8_init_151 : decode cX8_init 151 = .ok (.iconst 5, 1) := by decide +kernel
theorem dX8_init_152 : decode cX8_init 152 = .ok (.newarray .int, 2) := by decide +kernel
theorem dX8_init_154 : decode cX8_init 154 = .ok (.putfield 68, 3) := by decide +kernel
theorem dX8_init_157 : decode cX8_init 157 = .ok (.aload_n 0, 1) := by decide +kernel
theorem dX8_init_158 : decode cX8_init 158 = .ok (.iconst 5, 1) := by decide +kernel
theorem dX8_init_159 : decode cX8_init 159 = .ok (.newarray .int, 2) := by decide +kernel
theorem dX8_init_161 : decode cX8_init 161 = .ok (.putfield 71, 3) := by decide +kernel
theorem dX8_init_164 : decode cX8_init 164 = .ok (.aload_n 0, 1) := by decide +kernel
theorem dX8_init_165 : decode cX8_init 165 = .ok (.bipush 8, 2) := by decide +kernel
theorem dX8_init_167 : decode cX8_init 167 = .ok (.newarray .int, 2) := by decide +kernel
theorem dX8_init_169 : decode cX8_init 169 = .ok (.putfield 74, 3) := by decide +kernel
theorem dX8_init_172 : decode cX8_init 172 = .ok (.aload_n 0, 1) := by decide +kernel
theorem dX8_init_173 : decode cX8_init 173 = .ok (.sipush 6561, 3) := by decide +kernel
theorem dX8_init_176 : decode cX8_init 176 = .ok (.newarray .int, 2) := by decide +kernel
theorem dX8_init_178 : decode cX8_init 178 = .ok (.putfield 77, 3) := by decide +kernel
theorem dX8_init_181 : decode cX8_init 181 = .ok (.aload_n 0, 1) := by decide +kernel
theorem dX8_init_182 : decode cX8_init 182 = .ok (.bipush 40, 2) := by decide +kernel
theorem dX8_init_184 : decode cX8_init 184 = .ok (.newarray .int, 2) := by decide +kernel
theorem dX8_init_186 : decode cX8_init 186 = .ok (.putfield 80, 3) := by decide +kernel
theorem dX8_init_189 : decode cX8_init 189 = .ok (.aload_n 0, 1) := by decide +kernel
theorem dX8_init_190 : decode cX8_init 190 = .ok (.bipush 40, 2) := by decide +kernel
theorem dX8_init_192 : decode cX8_init 192 = .ok (.newarray .int, 2) := by decide +kernel
theorem dX8_init_194 : decode cX8_init 194 = .ok (.putfield 83, 3) := by decide +kernel
theorem dX8_init_197 : decode cX8_init 197 = .ok (.aload_n 0, 1) := by decide +kernel
theorem dX8_init_198 : decode cX8_init 198 = .ok (.bipush 40, 2) := by decide +kernel
theorem dX8_init_200 : decode cX8_init 200 = .ok (.newarray .boolean, 2) := by decide +kernel
theorem dX8_init_202 : decode cX8_init 202 = .ok (.putfield 86, 3) := by decide +kernel
theorem dX8_init_205 : decode cX8_init 205 = .ok (.aload_n 0, 1) := by decide +kernel
theorem dX8_init_206 : decode cX8_init 206 = .ok (.sipush 2400, 3) := by decide +kernel
theorem dX8_init_209 : decode cX8_init 209 = .ok (.newarray .int, 2) := by decide +kernel
theorem dX8_init_211 : decode cX8_init 211 = .ok (.putfield 90, 3) := by decide +kernel
theorem dX8_init_214 : decode cX8_init 214 = .ok (.aload_n 0, 1) := by decide +kernel
theorem dX8_init_215 : decode cX8_init 215 = .ok (.iconst 2, 1) := by decide +kernel
theorem dX8_init_216 : decode cX8_init 216 = .ok (.newarray .boolean, 2) := by decide +kernel
theorem dX8_init_218 : decode cX8_init 218 = .ok (.putfield 93, 3) := by decide +kernel
theorem dX8_init_221 : decode cX8_init 221 = .ok (.aload_n 0, 1) := by decide +kernel
theorem dX8_init_222 : decode cX8_init 222 = .ok (.iconst 0, 1) := by decide +kernel
theorem dX8_init_223 : decode cX8_init 223 = .ok (.putfield 96, 3) := by decide +kernel
theorem dX8_init_226 : decode cX8_init 226 = .ok (.return_, 1) := by decide +kernel
theorem dX8_in_0 : decode cX8_in 0 = .ok (.lload_n 0, 1) := by decide +kernel
theorem dX8_in_1 : decode cX8_in 1 = .ok (.lload_n 2, 1) := by decide +kernel
theorem dX8_in_2 : decode cX8_in 2 = .ok (.lcmp, 1) := by decide +kernel
theorem dX8_in_3 : decode cX8_in 3 = .ok (.ifCond .lt 14, 3) := by decide +kernel
theorem dX8_in_6 : decode cX8_in 6 = .ok (.lload_n 0, 1) := by decide +kernel
theorem dX8_in_7 : decode cX8_in 7 = .ok (.lload 4, 2) := by decide +kernel
theorem dX8_in_9 : decode cX8_in 9 = .ok (.lcmp, 1) := by decide +kernel
theorem dX8_in_10 : decode cX8_in 10 = .ok (.ifCond .gt 7, 3) := by decide +kernel
theorem dX8_in_13 : decode cX8_in 13 = .ok (.iconst 1, 1) := by decide +kernel
theorem dX8_in_14 : decode cX8_in 14 = .ok (.goto 4, 3) := by decide +kernel
theorem dX8_in_17 : decode cX8_in 17 = .ok (.iconst 0, 1) := by decide +kernel
theorem dX8_in_18 : decode cX8_in 18 = .ok (.ireturn, 1) := by decide +kernel
theorem dX8_has_0 : decode cX8_has 0 = .ok (.iload_n 0, 1) := by decide +kernel
theorem dX8_has_1 : decode cX8_has 1 = .ok (.iload_n 1, 1) := by decide +kernel
theorem dX8_has_2 : decode cX8_has 2 = .ok (.ishr, 1) := by decide +kernel
theorem dX8_has_3 : decode cX8_has 3 = .ok (.iconst 1, 1) := by decide +kernel
theorem dX8_has_4 : decode cX8_has 4 = .ok (.iand, 1) := by decide +kernel
theorem dX8_has_5 : decode cX8_has 5 = .ok (.iconst 1, 1) := by decide +kernel
theorem dX8_has_6 : decode cX8_has 6 = .ok (.if_icmp .ne 7, 3) := by decide +kernel
theorem dX8_has_9 : decode cX8_has 9 = .ok (.iconst 1, 1) := by decide +kernel
theorem dX8_has_10 : decode cX8_has 10 = .ok (.goto 4, 3) := by decide +kernel
theorem dX8_has_13 : decode cX8_has 13 = .ok (.iconst 0, 1) := by decide +kernel
theorem dX8_has_14 : decode cX8_has 14 = .ok (.ireturn, 1) := by decide +kernel
theorem dX8_size_0 : decode cX8_size 0 = .ok (.iload_n 0, 1) := by decide +kernel
theorem dX8_size_1 : decode cX8_size 1 = .ok (.ifCond .ge 8, 3) := by decide +kernel
theorem dX8_size_4 : decode cX8_size 4 = .ok (.iload_n 0, 1) := by decide +kernel
theorem dX8_size_5 : decode cX8_size 5 = .ok (.ineg, 1) := by decide +kernel
theorem dX8_size_6 : decode cX8_size 6 = .ok (.goto 4, 3) := by decide +kernel
theorem dX8_size_9 : decode cX8_size 9 = .ok (.iload_n 0, 1) := by decide +kernel
theorem dX8_size_10 : decode cX8_size 10 = .ok (.ireturn, 1) := by decide +kernel
theorem dX8_isHouse_0 : decode cX8_isHouse 0 = .ok (.iload_n 1, 1) := by decide +kernel
theorem dX8_isHouse_1 : decode cX8_isHouse 1 = .ok (.i2l, 1) := by decide +kernel
theorem dX8_isHouse_2 : decode cX8_isHouse 2 = .ok (.lconst 0, 1) := by decide +kernel
theorem dX8_isHouse_3 : decode cX8_isHouse 3 = .ok (.aload_n 0, 1) := by decide +kernel
theorem dX8_isHouse_4 : decode cX8_isHouse 4 = .ok (.getfield 99, 3) := by decide +kernel
theorem dX8_isHouse_7 : decode cX8_isHouse 7 = .ok (.iconst 1, 1) := by decide +kernel
theorem dX8_isHouse_8 : decode cX8_isHouse 8 = .ok (.isub, 1) := by decide +kernel
theorem dX8_isHouse_9 : decode cX8_isHouse 9 = .ok (.i2l, 1) := by decide +kernel
theorem dX8_isHouse_10 : decode cX8_isHouse 10 = .ok (.invokestatic 102, 3) := by decide +kernel
theorem dX8_isHouse_13 : decode cX8_isHouse 13 = .ok (.ireturn, 1) := by decide +kernel
theorem dX8_isPart_0 : decode cX8_isPart 0 = .ok (.iload_n 1, 1) := by decide +kernel
theorem dX8_isPart_1 : decode cX8_isPart 1 = .ok (.i2l, 1) := by decide +kernel
theorem dX8_isPart_2 : decode cX8_isPart 2 = .ok (.lconst 0, 1) := by decide +kernel
theorem dX8_isPart_3 : decode cX8_isPart 3 = .ok (.aload_n 0, 1) := by decide +kernel
theorem dX8_isPart_4 : decode cX8_isPart 4 = .ok (.getfield 106, 3) := by decide +kernel
theorem dX8_isPart_7 : decode cX8_isPart 7 = .ok (.iconst 1, 1) := by decide +kernel
theorem dX8_isPart_8 : decode cX8_isPart 8 = .ok (.isub, 1) := by decide +kernel
theorem dX8_isPart_9 : decode cX8_isPart 9 = .ok (.i2l, 1) := by decide +kernel
theorem dX8_isPart_10 : decode cX8_isPart 10 = .ok (.invokestatic 102, 3) := by decide +kernel
theorem dX8_isPart_13 : decode cX8_isPart 13 = .ok (.ireturn, 1) := by decide +kernel
theorem dX8_isSort_0 : decode cX8_isSort 0 = .ok (.iload_n 1, 1) := by decide +kernel
theorem dX8_isSort_1 : decode cX8_isSort 1 = .ok (.i2l, 1) := by decide +kernel
theorem dX8_isSort_2 : decode cX8_isSort 2 = .ok (.lconst 0, 1) := by decide +kernel
theorem dX8_isSort_3 : decode cX8_isSort 3 = .ok (.aload_n 0, 1) := by decide +kernel
theorem dX8_isSort_4 : decode cX8_isSort 4 = .ok (.getfield 96, 3) := by decide +kernel
theorem dX8_isSort_7 : decode cX8_isSort 7 = .ok (.iconst 1, 1) := by decide +kernel
theorem dX8_isSort_8 : decode cX8_isSort 8 = .ok (.isub, 1) := by decide +kernel
theorem dX8_isSort_9 : decode cX8_isSort 9 = .ok (.i2l, 1) := by decide +kernel
theorem dX8_isSort_10 : decode cX8_isSort 10 = .ok (.invokestatic 102, 3) := by decide +kernel
theorem dX8_isSort_13 : decode cX8_isSort 13 = .ok (.ireturn, 1) := by decide +kernel
theorem dX8_begin_0 : decode cX8_begin 0 = .ok (.aload_n 0, 1) := by decide +kernel
theorem dX8_begin_1 : decode cX8_begin 1 = .ok (.getfield 109, 3) := by decide +kernel
theorem dX8_begin_4 : decode cX8_begin 4 = .ok (.istore_n 1, 1) := by decide +kernel
theorem dX8_begin_5 : decode cX8_begin 5 = .ok (.aload_n 0, 1) := by decide +kernel
theorem dX8_begin_6 : decode cX8_begin 6 = .ok (.iconst 0, 1) := by decide +kernel
theorem dX8_begin_7 : decode cX8_begin 7 = .ok (.putfield 109, 3) := by decide +kernel
theorem dX8_begin_10 : decode cX8_begin 10 = .ok (.aload_n 0, 1) := by decide +kernel
theorem dX8_begin_11 : decode cX8_begin 11 = .ok (.aload_n 0, 1) := by decide +kernel
theorem dX8_begin_12 : decode cX8_begin 12 = .ok (.getfield 112, 3) := by decide +kernel
theorem dX8_begin_15 : decode cX8_begin 15 = .ok (.putfield 106, 3) := by decide +kernel
theorem dX8_begin_18 : decode cX8_begin 18 = .ok (.iconst 0, 1) := by decide +kernel
theorem dX8_begin_19 : decode cX8_begin 19 = .ok (.istore_n 2, 1) := by decide +kernel
theorem dX8_begin_20 : decode cX8_begin 20 = .ok (.iload_n 2, 1) := by decide +kernel
theorem dX8_begin_21 : decode cX8_begin 21 = .ok (.aload_n 0, 1) := by decide +kernel
theorem dX8_begin_22 : decode cX8_begin 22 = .ok (.getfield 106, 3) := by decide +kernel
theorem dX8_begin_25 : decode cX8_begin 25 = .ok (.if_icmp .ge 62, 3) := by decide +kernel
theorem dX8_begin_28 : decode cX8_begin 28 = .ok (.aload_n 0, 1) := by decide +kernel
theorem dX8_begin_29 : decode cX8_begin 29 = .ok (.getfield 22, 3) := by decide +kernel
theorem dX8_begin_32 : decode cX8_begin 32 = .ok (.iload_n 2, 1) := by decide +kernel
theorem dX8_begin_33 : decode cX8_begin 33 = .ok (.aload_n 0, 1) := by decide +kernel
theorem dX8_begin_34 : decode cX8_begin 34 = .ok (.getfield 16, 3) := by decide +kernel
theorem dX8_begin_37 : decode cX8_begin 37 = .ok (.iload_n 2, 1) := by decide +kernel
theorem dX8_begin_38 : decode cX8_begin 38 = .ok (.iaload, 1) := by decide +kernel
theorem dX8_begin_39 : decode cX8_begin 39 = .ok (.iastore, 1) := by decide +kernel
theorem dX8_begin_40 : decode cX8_begin 40 = .ok (.aload_n 0, 1) := by decide +kernel
theorem dX8_begin_41 : decode cX8_begin 41 = .ok (.getfield 25, 3) := by decide +kernel
theorem dX8_begin_44 : decode cX8_begin 44 = .ok (.iload_n 2, 1) := by decide +kernel
theorem dX8_begin_45 : decode cX8_begin 45 = .ok (.aload_n 0, 1) := by decide +kernel
theorem dX8_begin_46 : decode cX8_begin 46 = .ok (.getfield 19, 3) := by decide +kernel
theorem dX8_begin_49 : decode cX8_begin 49 = .ok (.iload_n 2, 1) := by decide +kernel
theorem dX8_begin_50 : decode cX8_begin 50 = .ok (.iaload, 1) := by decide +kernel
theorem dX8_begin_51 : decode cX8_begin 51 = .ok (.iastore, 1) := by decide +kernel
theorem dX8_begin_52 : decode cX8_begin 52 = .ok (.aload_n 0, 1) := by decide +kernel
theorem dX8_begin_53 : decode cX8_begin 53 = .ok (.getfield 28, 3) := by decide +kernel
theorem dX8_begin_56 : decode cX8_begin 56 = .ok (.iload_n 2, 1) := by decide +kernel
theorem dX8_begin_57 : decode cX8_begin 57 = .ok (.iconst (-1), 1) := by decide +kernel
theorem dX8_begin_58 : decode cX8_begin 58 = .ok (.iastore, 1) := by decide +kernel
theorem dX8_begin_59 : decode cX8_begin 59 = .ok (.aload_n 0, 1) := by decide +kernel
theorem dX8_begin_60 : decode cX8_begin 60 = .ok (.getfield 31, 3) := by decide +kernel
theorem dX8_begin_63 : decode cX8_begin 63 = .ok (.iload_n 2, 1) := by decide +kernel
theorem dX8_begin_64 : decode cX8_begin 64 = .ok (.iconst 1, 1) := by decide +kernel
theorem dX8_begin_65 : decode cX8_begin 65 = .ok (.iastore, 1) := by decide +kernel
theorem dX8_begin_66 : decode cX8_begin 66 = .ok (.aload_n 0, 1) := by decide +kernel
theorem dX8_begin_67 : decode cX8_begin 67 = .ok (.getfield 34, 3) := by decide +kernel
theorem dX8_begin_70 : decode cX8_begin 70 = .ok (.bipush 20, 2) := by decide +kernel
theorem dX8_begin_72 : decode cX8_begin 72 = .ok (.iload_n 2, 1) := by decide +kernel
theorem dX8_begin_73 : decode cX8_begin 73 = .ok (.imul, 1) := by decide +kernel
theorem dX8_begin_74 : decode cX8_begin 74 = .ok (.aload_n 0, 1) := by decide +kernel
theorem dX8_begin_75 : decode cX8_begin 75 = .ok (.getfield 19, 3) := by decide +kernel
theorem dX8_begin_78 : decode cX8_begin 78 = .ok (.iload_n 2, 1) := by decide +kernel
theorem dX8_begin_79 : decode cX8_begin 79 = .ok (.iaload, 1) := by decide +kernel
theorem dX8_begin_80 : decode cX8_begin 80 = .ok (.iastore, 1) := by decide +kernel
theorem dX8_begin_81 : decode cX8_begin 81 = .ok (.iinc 2 1, 3) := by decide +kernel
theorem dX8_begin_84 : decode cX8_begin 84 = .ok (.goto (-64), 3) := by decide +kernel
theorem dX8_begin_87 : decode cX8_begin 87 = .ok (.iload_n 1, 1) := by decide +kernel
theorem dX8_begin_88 : decode cX8_begin 88 = .ok (.ireturn, 1) := by decide +kernel
theorem dX8_feed_0 : decode cX8_feed 0 = .ok (.iload_n 1, 1) := by decide +kernel
theorem dX8_feed_1 : decode cX8_feed 1 = .ok (.i2l, 1) := by decide +kernel
theorem dX8_feed_2 : decode cX8_feed 2 = .ok (.lconst 1, 1) := by decide +kernel
theorem dX8_feed_3 : decode cX8_feed 3 = .ok (.ldc2_w 115, 3) := by decide +kernel
theorem dX8_feed_6 : decode cX8_feed 6 = .ok (.invokestatic 102, 3) := by decide +kernel
theorem dX8_feed_9 : decode cX8_feed 9 = .ok (.ifCond .ne 6, 3) := by decide +kernel
theorem dX8_feed_12 : decode cX8_feed 12 = .ok (.ldc 117, 2) := by decide +kernel
theorem dX8_feed_14 : decode cX8_feed 14 = .ok (.ireturn, 1) := by decide +kernel
theorem dX8_feed_15 : decode cX8_feed 15 = .ok (.aload_n 0, 1) := by decide +kernel
theorem dX8_feed_16 : decode cX8_feed 16 = .ok (.getfield 118, 3) := by decide +kernel
theorem dX8_feed_19 : decode cX8_feed 19 = .ok (.iload_n 1, 1) := by decide +kernel
theorem dX8_feed_20 : decode cX8_feed 20 = .ok (.iadd, 1) := by decide +kernel
theorem dX8_feed_21 : decode cX8_feed 21 = .ok (.sipush 400, 3) := by decide +kernel
theorem dX8_feed_24 : decode cX8_feed 24 = .ok (.if_icmp .le 6, 3) := by decide +kernel
theorem dX8_feed_27 : decode cX8_feed 27 = .ok (.ldc 121, 2) := by decide +kernel
theorem dX8_feed_29 : decode cX8_feed 29 = .ok (.ireturn, 1) := by decide +kernel
theorem dX8_feed_30 : decode cX8_feed 30 = .ok (.iload_n 1, 1) := by decide +kernel
theorem dX8_feed_31 : decode cX8_feed 31 = .ok (.iconst 1, 1) := by decide +kernel
theorem dX8_feed_32 : decode cX8_feed 32 = .ok (.isub, 1) := by decide +kernel
theorem dX8_feed_33 : decode cX8_feed 33 = .ok (.istore 4, 2) := by decide +kernel
theorem dX8_feed_35 : decode cX8_feed 35 = .ok (.iload 4, 2) := by decide +kernel
theorem dX8_feed_37 : decode cX8_feed 37 = .ok (.ifCond .lt 40, 3) := by decide +kernel
theorem dX8_feed_40 : decode cX8_feed 40 = .ok (.aload_n 0, 1) := by decide +kernel
theorem dX8_feed_41 : decode cX8_feed 41 = .ok (.getfield 37, 3) := by decide +kernel
theorem dX8_feed_44 : decode cX8_feed 44 = .ok (.aload_n 0, 1) := by decide +kernel
theorem dX8_feed_45 : decode cX8_feed 45 = .ok (.getfield 118, 3) := by decide +kernel
theorem dX8_feed_48 : decode cX8_feed 48 = .ok (.lload_n 2, 1) := by decide +kernel
theorem dX8_feed_49 : decode cX8_feed 49 = .ok (.bipush 8, 2) := by decide +kernel
theorem dX8_feed_51 : decode cX8_feed 51 = .ok (.iload 4, 2) := by decide +kernel
theorem dX8_feed_53 : decode cX8_feed 53 = .ok (.imul, 1) := by decide +kernel
theorem dX8_feed_54 : decode cX8_feed 54 = .ok (.lshr, 1) := by decide +kernel
theorem dX8_feed_55 : decode cX8_feed 55 = .ok (.ldc2_w 122, 3) := by decide +kernel
theorem dX8_feed_58 : decode cX8_feed 58 = .ok (.land, 1) := by decide +kernel
theorem dX8_feed_59 : decode cX8_feed 59 = .ok (.l2i, 1) := by decide +kernel
theorem dX8_feed_60 : decode cX8_feed 60 = .ok (.iastore, 1) := by decide +kernel
theorem dX8_feed_61 : decode cX8_feed 61 = .ok (.aload_n 0, 1) := by decide +kernel
theorem dX8_feed_62 : decode cX8_feed 62 = .ok (.dup, 1) := by decide +kernel
theorem dX8_feed_63 : decode cX8_feed 63 = .ok (.getfield 118, 3) := by decide +kernel
theorem dX8_feed_66 : decode cX8_feed 66 = .ok (.iconst 1, 1) := by decide +kernel
theorem dX8_feed_67 : decode cX8_feed 67 = .ok (.iadd, 1) := by decide +kernel
theorem dX8_feed_68 : decode cX8_feed 68 = .ok (.putfield 118, 3) := by decide +kernel
theorem dX8_feed_71 : decode cX8_feed 71 = .ok (.iinc 4 (-1), 3) := by decide +kernel
theorem dX8_feed_74 : decode cX8_feed 74 = .ok (.goto (-39), 3) := by decide +kernel
theorem dX8_feed_77 : decode cX8_feed 77 = .ok (.aload_n 0, 1) := by decide +kernel
theorem dX8_feed_78 : decode cX8_feed 78 = .ok (.getfield 118, 3) := by decide +kernel
theorem dX8_feed_81 : decode cX8_feed 81 = .ok (.ireturn, 1) := by decide +kernel
theorem dX8_here_0 : decode cX8_here 0 = .ok (.aload_n 0, 1) := by decide +kernel
theorem dX8_here_1 : decode cX8_here 1 = .ok (.getfield 124, 3) := by decide +kernel
theorem dX8_here_4 : decode cX8_here 4 = .ok (.aload_n 0, 1) := by decide +kernel
theorem dX8_here_5 : decode cX8_here 5 = .ok (.getfield 118, 3) := by decide +kernel
theorem dX8_here_8 : decode cX8_here 8 = .ok (.if_icmp .ge 30, 3) := by decide +kernel
theorem dX8_here_11 : decode cX8_here 11 = .ok (.aload_n 0, 1) := by decide +kernel
theorem dX8_here_12 : decode cX8_here 12 = .ok (.getfield 37, 3) := by decide +kernel
theorem dX8_here_15 : decode cX8_here 15 = .ok (.aload_n 0, 1) := by decide +kernel
theorem dX8_here_16 : decode cX8_here 16 = .ok (.getfield 124, 3) := by decide +kernel
theorem dX8_here_19 : decode cX8_here 19 = .ok (.iaload, 1) := by decide +kernel
theorem dX8_here_20 : decode cX8_here 20 = .ok (.bipush 32, 2) := by decide +kernel
theorem dX8_here_22 : decode cX8_here 22 = .ok (.if_icmp .ne 16, 3) := by decide +kernel
theorem dX8_here_25 : decode cX8_here 25 = .ok (.aload_n 0, 1) := by decide +kernel
theorem dX8_here_26 : decode cX8_here 26 = .ok (.dup, 1) := by decide +kernel
theorem dX8_here_27 : decode cX8_here 27 = .ok (.getfield 124, 3) := by decide +kernel
theorem dX8_here_30 : decode cX8_here 30 = .ok (.iconst 1, 1) := by decide +kernel
theorem dX8_here_31 : decode cX8_here 31 = .ok (.iadd, 1) := by decide +kernel
theorem dX8_here_32 : decode cX8_here 32 = .ok (.putfield 124, 3) := by decide +kernel
theorem dX8_here_35 : decode cX8_here 35 = .ok (.goto (-35), 3) := by decide +kernel
theorem dX8_here_38 : decode cX8_here 38 = .ok (.aload_n 0, 1) := by decide +kernel
theorem dX8_here_39 : decode cX8_here 39 = .ok (.getfield 124, 3) := by decide +kernel
theorem dX8_here_42 : decode cX8_here 42 = .ok (.aload_n 0, 1) := by decide +kernel
theorem dX8_here_43 : decode cX8_here 43 = .ok (.getfield 118, 3) := by decide +kernel
theorem dX8_here_46 : decode cX8_here 46 = .ok (.if_icmp .ge 15, 3) := by decide +kernel
theorem dX8_here_49 : decode cX8_here 49 = .ok (.aload_n 0, 1) := by decide +kernel
theorem dX8_here_50 : decode cX8_here 50 = .ok (.getfield 37, 3) := by decide +kernel
theorem dX8_here_53 : decode cX8_here 53 = .ok (.aload_n 0, 1) := by decide +kernel
theorem dX8_here_54 : decode cX8_here 54 = .ok (.getfield 124, 3) := by decide +kernel
theorem dX8_here_57 : decode cX8_here 57 = .ok (.iaload, 1) := by decide +kernel
theorem dX8_here_58 : decode cX8_here 58 = .ok (.goto 4, 3) := by decide +kernel
theorem dX8_here_61 : decode cX8_here 61 = .ok (.iconst (-1), 1) := by decide +kernel
theorem dX8_here_62 : decode cX8_here 62 = .ok (.ireturn, 1) := by decide +kernel
theorem dX8_fails_0 : decode cX8_fails 0 = .ok (.aload_n 0, 1) := by decide +kernel
theorem dX8_fails_1 : decode cX8_fails 1 = .ok (.iload_n 2, 1) := by decide +kernel
theorem dX8_fails_2 : decode cX8_fails 2 = .ok (.putfield 40, 3) := by decide +kernel
theorem dX8_fails_5 : decode cX8_fails 5 = .ok (.iload_n 1, 1) := by decide +kernel
theorem dX8_fails_6 : decode cX8_fails 6 = .ok (.ireturn, 1) := by decide +kernel
theorem dX8_readWord_0 : decode cX8_readWord 0 = .ok (.aload_n 0, 1) := by decide +kernel
theorem dX8_readWord_1 : decode cX8_readWord 1 = .ok (.invokevirtual 127, 3) := by decide +kernel
theorem dX8_readWord_4 : decode cX8_readWord 4 = .ok (.istore_n 1, 1) := by decide +kernel
theorem dX8_readWord_5 : decode cX8_readWord 5 = .ok (.aload_n 0, 1) := by decide +kernel
theorem dX8_readWord_6 : decode cX8_readWord 6 = .ok (.lconst 0, 1) := by decide +kernel
theorem dX8_readWord_7 : decode cX8_readWord 7 = .ok (.putfield 131, 3) := by decide +kernel
theorem dX8_readWord_10 : decode cX8_readWord 10 = .ok (.aload_n 0, 1) := by decide +kernel
theorem dX8_readWord_11 : decode cX8_readWord 11 = .ok (.aload_n 0, 1) := by decide +kernel
theorem dX8_readWord_12 : decode cX8_readWord 12 = .ok (.getfield 124, 3) := by decide +kernel
theorem dX8_readWord_15 : decode cX8_readWord 15 = .ok (.putfield 135, 3) := by decide +kernel
theorem dX8_readWord_18 : decode cX8_readWord 18 = .ok (.aload_n 0, 1) := by decide +kernel
theorem dX8_readWord_19 : decode cX8_readWord 19 = .ok (.getfield 135, 3) := by decide +kernel
theorem dX8_readWord_22 : decode cX8_readWord 22 = .ok (.aload_n 0, 1) := by decide +kernel
theorem dX8_readWord_23 : decode cX8_readWord 23 = .ok (.getfield 118, 3) := by decide +kernel
theorem dX8_readWord_26 : decode cX8_readWord 26 = .ok (.if_icmp .ge 82, 3) := by decide +kernel
theorem dX8_readWord_29 : decode cX8_readWord 29 = .ok (.aload_n 0, 1) := by decide +kernel
theorem dX8_readWord_30 : decode cX8_readWord 30 = .ok (.getfield 37, 3) := by decide +kernel
theorem dX8_readWord_33 : decode cX8_readWord 33 = .ok (.aload_n 0, 1) := by decide +kernel
theorem dX8_readWord_34 : decode cX8_readWord 34 = .ok (.getfield 135, 3) := by decide +kernel
theorem dX8_readWord_37 : decode cX8_readWord 37 = .ok (.iaload, 1) := by decide +kernel
theorem dX8_readWord_38 : decode cX8_readWord 38 = .ok (.i2l, 1) := by decide +kernel
theorem dX8_readWord_39 : decode cX8_readWord 39 = .ok (.ldc2_w 138, 3) := by decide +kernel
theorem dX8_readWord_42 : decode cX8_readWord 42 = .ok (.ldc2_w 140, 3) := by decide +kernel
theorem dX8_readWord_45 : decode cX8_readWord 45 = .ok (.invokestatic 102, 3) := by decide +kernel
theorem dX8_readWord_48 : decode cX8_readWord 48 = .ok (.ifCond .eq 60, 3) := by decide +kernel
theorem dX8_readWord_51 : decode cX8_readWord 51 = .ok (.aload_n 0, 1) := by decide +kernel
theorem dX8_readWord_52 : decode cX8_readWord 52 = .ok (.aload_n 0, 1) := by decide +kernel
theorem dX8_readWord_53 : decode cX8_readWord 53 = .ok (.getfield 131, 3) := by decide +kernel
theorem dX8_readWord_56 : decode cX8_readWord 56 = .ok (.ldc2_w 142, 3) := by decide +kernel
theorem dX8_readWord_59 : decode cX8_readWord 59 = .ok (.lcmp, 1) := by decide +kernel
theorem dX8_readWord_60 : decode cX8_readWord 60 = .ok (.ifCond .le 9, 3) := by decide +kernel
theorem dX8_readWord_63 : decode cX8_readWord 63 = .ok (.ldc2_w 144, 3) := by decide +kernel
theorem dX8_readWord_66 : decode cX8_readWord 66 = .ok (.goto 26, 3) := by decide +kernel
theorem dX8_readWord_69 : decode cX8_readWord 69 = .ok (.ldc2_w 146, 3) := by decide +kernel
theorem dX8_readWord_72 : decode cX8_readWord 72 = .ok (.aload_n 0, 1) := by decide +kernel
theorem dX8_readWord_73 : decode cX8_readWord 73 = .ok (.getfield 131, 3) := by decide +kernel
theorem dX8_readWord_76 : decode cX8_readWord 76 = .ok (.lmul, 1) := by decide +kernel
theorem dX8_readWord_77 : decode cX8_readWord 77 = .ok (.aload_n 0, 1) := by decide +kernel
theorem dX8_readWord_78 : decode cX8_readWord 78 = .ok (.getfield 37, 3) := by decide +kernel
theorem dX8_readWord_81 : decode cX8_readWord 81 = .ok (.aload_n 0, 1) := by decide +kernel
theorem dX8_readWord_82 : decode cX8_readWord 82 = .ok (.getfield 135, 3) := by decide +kernel
theorem dX8_readWord_85 : decode cX8_readWord 85 = .ok (.iaload, 1) := by decide +kernel
theorem dX8_readWord_86 : decode cX8_readWord 86 = .ok (.i2l, 1) := by decide +kernel
theorem dX8_readWord_87 : decode cX8_readWord 87 = .ok (.ladd, 1) := by decide +kernel
theorem dX8_readWord_88 : decode cX8_readWord 88 = .ok (.ldc2_w 148, 3) := by decide +kernel
theorem dX8_readWord_91 : decode cX8_readWord 91 = .ok (.lsub, 1) := by decide +kernel
theorem dX8_readWord_92 : decode cX8_readWord 92 = .ok (.putfield 131, 3) := by decide +kernel
theorem dX8_readWord_95 : decode cX8_readWord 95 = .ok (.aload_n 0, 1) := by decide +kernel
theorem dX8_readWord_96 : decode cX8_readWord 96 = .ok (.dup, 1) := by decide +kernel
theorem dX8_readWord_97 : decode cX8_readWord 97 = .ok (.getfield 135, 3) := by decide +kernel
theorem dX8_readWord_100 : decode cX8_readWord 100 = .ok (.iconst 1, 1) := by decide +kernel
theorem dX8_readWord_101 : decode cX8_readWord 101 = .ok (.iadd, 1) := by decide +kernel
theorem dX8_readWord_102 : decode cX8_readWord 102 = .ok (.putfield 135, 3) := by decide +kernel
theorem dX8_readWord_105 : decode cX8_readWord 105 = .ok (.goto (-87), 3) := by decide +kernel
theorem dX8_readWord_108 : decode cX8_readWord 108 = .ok (.return_, 1) := by decide +kernel
theorem dX8_code_0 : decode cX8_code 0 = .ok (.ldc2_w 146, 3) := by decide +kernel
theorem dX8_code_3 : decode cX8_code 3 = .ok (.ldc2_w 146, 3) := by decide +kernel
theorem dX8_code_6 : decode cX8_code 6 = .ok (.ldc2_w 146, 3) := by decide +kernel
theorem dX8_code_9 : decode cX8_code 9 = .ok (.ldc2_w 146, 3) := by decide +kernel
theorem dX8_code_12 : decode cX8_code 12 = .ok (.iload_n 0, 1) := by decide +kernel
theorem dX8_code_13 : decode cX8_code 13 = .ok (.i2l, 1) := by decide +kernel
theorem dX8_code_14 : decode cX8_code 14 = .ok (.ldc2_w 148, 3) := by decide +kernel
theorem dX8_code_17 : decode cX8_code 17 = .ok (.lsub, 1) := by decide +kernel
theorem dX8_code_18 : decode cX8_code 18 = .ok (.lmul, 1) := by decide +kernel
theorem dX8_code_19 : decode cX8_code 19 = .ok (.iload_n 1, 1) := by decide +kernel
theorem dX8_code_20 : decode cX8_code 20 = .ok (.i2l, 1) := by decide +kernel
theorem dX8_code_21 : decode cX8_code 21 = .ok (.ladd, 1) := by decide +kernel
theorem dX8_code_22 : decode cX8_code 22 = .ok (.ldc2_w 148, 3) := by decide +kernel
theorem dX8_code_25 : decode cX8_code 25 = .ok (.lsub, 1) := by decide +kernel
theorem dX8_code_26 : decode cX8_code 26 = .ok (.lmul, 1) := by decide +kernel
theorem dX8_code_27 : decode cX8_code 27 = .ok (.iload_n 2, 1) := by decide +kernel
theorem dX8_code_28 : decode cX8_code 28 = .ok (.i2l, 1) := by decide +kernel
theorem dX8_code_29 : decode cX8_code 29 = .ok (.ladd, 1) := by decide +kernel
theorem dX8_code_30 : decode cX8_code 30 = .ok (.ldc2_w 148, 3) := by decide +kernel
theorem dX8_code_33 : decode cX8_code 33 = .ok (.lsub, 1) := by decide +kernel
theorem dX8_code_34 : decode cX8_code 34 = .ok (.lmul, 1) := by decide +kernel
theorem dX8_code_35 : decode cX8_code 35 = .ok (.iload_n 3, 1) := by decide +kernel
theorem dX8_code_36 : decode cX8_code 36 = .ok (.i2l, 1) := by decide +kernel
theorem dX8_code_37 : decode cX8_code 37 = .ok (.ladd, 1) := by decide +kernel
theorem dX8_code_38 : decode cX8_code 38 = .ok (.ldc2_w 148, 3) := by decide +kernel
theorem dX8_code_41 : decode cX8_code 41 = .ok (.lsub, 1) := by decide +kernel
theorem dX8_code_42 : decode cX8_code 42 = .ok (.lmul, 1) := by decide +kernel
theorem dX8_code_43 : decode cX8_code 43 = .ok (.iload 4, 2) := by decide +kernel
theorem dX8_code_45 : decode cX8_code 45 = .ok (.i2l, 1) := by decide +kernel
theorem dX8_code_46 : decode cX8_code 46 = .ok (.ladd, 1) := by decide +kernel
theorem dX8_code_47 : decode cX8_code 47 = .ok (.ldc2_w 148, 3) := by decide +kernel
theorem dX8_code_50 : decode cX8_code 50 = .ok (.lsub, 1) := by decide +kernel
theorem dX8_code_51 : decode cX8_code 51 = .ok (.lreturn, 1) := by decide +kernel
theorem dX8_takeNumber_0 : decode cX8_takeNumber 0 = .ok (.aload_n 0, 1) := by decide +kernel
theorem dX8_takeNumber_1 : decode cX8_takeNumber 1 = .ok (.invokevirtual 127, 3) := by decide +kernel
theorem dX8_takeNumber_4 : decode cX8_takeNumber 4 = .ok (.istore_n 3, 1) := by decide +kernel
theorem dX8_takeNumber_5 : decode cX8_takeNumber 5 = .ok (.iload_n 3, 1) := by decide +kernel
theorem dX8_takeNumber_6 : decode cX8_takeNumber 6 = .ok (.i2l, 1) := by decide +kernel
theorem dX8_takeNumber_7 : decode cX8_takeNumber 7 = .ok (.ldc2_w 150, 3) := by decide +kernel
theorem dX8_takeNumber_10 : decode cX8_takeNumber 10 = .ok (.ldc2_w 152, 3) := by decide +kernel
theorem dX8_takeNumber_13 : decode cX8_takeNumber 13 = .ok (.invokestatic 102, 3) := by decide +kernel
theorem dX8_takeNumber_16 : decode cX8_takeNumber 16 = .ok (.ifCond .ne 13, 3) := by decide +kernel
theorem dX8_takeNumber_19 : decode cX8_takeNumber 19 = .ok (.aload_n 0, 1) := by decide +kernel
theorem dX8_takeNumber_20 : decode cX8_takeNumber 20 = .ok (.iconst 1, 1) := by decide +kernel
theorem dX8_takeNumber_21 : decode cX8_takeNumber 21 = .ok (.aload_n 0, 1) := by decide +kernel
theorem dX8_takeNumber_22 : decode cX8_takeNumber 22 = .ok (.getfield 124, 3) := by decide +kernel
theorem dX8_takeNumber_25 : decode cX8_takeNumber 25 = .ok (.invokevirtual 154, 3) := by decide +kernel
theorem dX8_takeNumber_28 : decode cX8_takeNumber 28 = .ok (.ireturn, 1) := by decide +kernel
theorem dX8_takeNumber_29 : decode cX8_takeNumber 29 = .ok (.aload_n 0, 1) := by decide +kernel
theorem dX8_takeNumber_30 : decode cX8_takeNumber 30 = .ok (.aload_n 0, 1) := by decide +kernel
theorem dX8_takeNumber_31 : decode cX8_takeNumber 31 = .ok (.getfield 124, 3) := by decide +kernel
theorem dX8_takeNumber_34 : decode cX8_takeNumber 34 = .ok (.putfield 158, 3) := by decide +kernel
theorem dX8_takeNumber_37 : decode cX8_takeNumber 37 = .ok (.aload_n 0, 1) := by decide +kernel
theorem dX8_takeNumber_38 : decode cX8_takeNumber 38 = .ok (.iconst 0, 1) := by decide +kernel
theorem dX8_takeNumber_39 : decode cX8_takeNumber 39 = .ok (.putfield 161, 3) := by decide +kernel
theorem dX8_takeNumber_42 : decode cX8_takeNumber 42 = .ok (.aload_n 0, 1) := by decide +kernel
theorem dX8_takeNumber_43 : decode cX8_takeNumber 43 = .ok (.getfield 124, 3) := by decide +kernel
theorem dX8_takeNumber_46 : decode cX8_takeNumber 46 = .ok (.aload_n 0, 1) := by decide +kernel
theorem dX8_takeNumber_47 : decode cX8_takeNumber 47 = .ok (.getfield 118, 3) := by decide +kernel
theorem dX8_takeNumber_50 : decode cX8_takeNumber 50 = .ok (.if_icmp .ge 79, 3) := by decide +kernel
theorem dX8_takeNumber_53 : decode cX8_takeNumber 53 = .ok (.aload_n 0, 1) := by decide +kernel
theorem dX8_takeNumber_54 : decode cX8_takeNumber 54 = .ok (.getfield 37, 3) := by decide +kernel
theorem dX8_takeNumber_57 : decode cX8_takeNumber 57 = .ok (.aload_n 0, 1) := by decide +kernel
theorem dX8_takeNumber_58 : decode cX8_takeNumber 58 = .ok (.getfield 124, 3) := by decide +kernel
theorem dX8_takeNumber_61 : decode cX8_takeNumber 61 = .ok (.iaload, 1) := by decide +kernel
theorem dX8_takeNumber_62 : decode cX8_takeNumber 62 = .ok (.i2l, 1) := by decide +kernel
theorem dX8_takeNumber_63 : decode cX8_takeNumber 63 = .ok (.ldc2_w 150, 3) := by decide +kernel
theorem dX8_takeNumber_66 : decode cX8_takeNumber 66 = .ok (.ldc2_w 152, 3) := by decide +kernel
theorem dX8_takeNumber_69 : decode cX8_takeNumber 69 = .ok (.invokestatic 102, 3) := by decide +kernel
theorem dX8_takeNumber_72 : decode cX8_takeNumber 72 = .ok (.ifCond .eq 57, 3) := by decide +kernel
theorem dX8_takeNumber_75 : decode cX8_takeNumber 75 = .ok (.aload_n 0, 1) := by decide +kernel
theorem dX8_takeNumber_76 : decode cX8_takeNumber 76 = .ok (.aload_n 0, 1) := by decide +kernel
theorem dX8_takeNumber_77 : decode cX8_takeNumber 77 = .ok (.getfield 161, 3) := by decide +kernel
theorem dX8_takeNumber_80 : decode cX8_takeNumber 80 = .ok (.sipush 10000, 3) := by decide +kernel
theorem dX8_takeNumber_83 : decode cX8_takeNumber 83 = .ok (.if_icmp .le 10, 3) := by decide +kernel
theorem dX8_takeNumber_86 : decode cX8_takeNumber 86 = .ok (.aload_n 0, 1) := by decide +kernel
theorem dX8_takeNumber_87 : decode cX8_takeNumber 87 = .ok (.getfield 161, 3) := by decide +kernel
theorem dX8_takeNumber_90 : decode cX8_takeNumber 90 = .ok (.goto 23, 3) := by decide +kernel
theorem dX8_takeNumber_93 : decode cX8_takeNumber 93 = .ok (.bipush 10, 2) := by decide +kernel
theorem dX8_takeNumber_95 : decode cX8_takeNumber 95 = .ok (.aload_n 0, 1) := by decide +kernel
theorem dX8_takeNumber_96 : decode cX8_takeNumber 96 = .ok (.getfield 161, 3) := by decide +kernel
theorem dX8_takeNumber_99 : decode cX8_takeNumber 99 = .ok (.imul, 1) := by decide +kernel
theorem dX8_takeNumber_100 : decode cX8_takeNumber 100 = .ok (.aload_n 0, 1) := by decide +kernel
theorem dX8_takeNumber_101 : decode cX8_takeNumber 101 = .ok (.getfield 37, 3) := by decide +kernel
theorem dX8_takeNumber_104 : decode cX8_takeNumber 104 = .ok (.aload_n 0, 1) := by decide +kernel
theorem dX8_takeNumber_105 : decode cX8_takeNumber 105 = .ok (.getfield 124, 3) := by decide +kernel
theorem dX8_takeNumber_108 : decode cX8_takeNumber 108 = .ok (.iaload, 1) := by decide +kernel
theorem dX8_takeNumber_109 : decode cX8_takeNumber 109 = .ok (.iadd, 1) := by decide +kernel
theorem dX8_takeNumber_110 : decode cX8_takeNumber 110 = .ok (.bipush 48, 2) := by decide +kernel
theorem dX8_takeNumber_112 : decode cX8_takeNumber 112 = .ok (.isub, 1) := by decide +kernel
theorem dX8_takeNumber_113 : decode cX8_takeNumber 113 = .ok (.putfield 161, 3) := by decide +kernel
theorem dX8_takeNumber_116 : decode cX8_takeNumber 116 = .ok (.aload_n 0, 1) := by decide +kernel
theorem dX8_takeNumber_117 : decode cX8_takeNumber 117 = .ok (.dup, 1) := by decide +kernel
theorem dX8_takeNumber_118 : decode cX8_takeNumber 118 = .ok (.getfield 124, 3) := by decide +kernel
theorem dX8_takeNumber_121 : decode cX8_takeNumber 121 = .ok (.iconst 1, 1) := by decide +kernel
theorem dX8_takeNumber_122 : decode cX8_takeNumber 122 = .ok (.iadd, 1) := by decide +kernel
theorem dX8_takeNumber_123 : decode cX8_takeNumber 123 = .ok (.putfield 124, 3) := by decide +kernel
theorem dX8_takeNumber_126 : decode cX8_takeNumber 126 = .ok (.goto (-84), 3) := by decide +kernel
theorem dX8_takeNumber_129 : decode cX8_takeNumber 129 = .ok (.aload_n 0, 1) := by decide +kernel
theorem dX8_takeNumber_130 : decode cX8_takeNumber 130 = .ok (.getfield 124, 3) := by decide +kernel
theorem dX8_takeNumber_133 : decode cX8_takeNumber 133 = .ok (.aload_n 0, 1) := by decide +kernel
theorem dX8_takeNumber_134 : decode cX8_takeNumber 134 = .ok (.getfield 158, 3) := by decide +kernel
theorem dX8_takeNumber_137 : decode cX8_takeNumber 137 = .ok (.isub, 1) := by decide +kernel
theorem dX8_takeNumber_138 : decode cX8_takeNumber 138 = .ok (.iconst 3, 1) := by decide +kernel
theorem dX8_takeNumber_139 : decode cX8_takeNumber 139 = .ok (.if_icmp .gt 18, 3) := by decide +kernel
theorem dX8_takeNumber_142 : decode cX8_takeNumber 142 = .ok (.aload_n 0, 1) := by decide +kernel
theorem dX8_takeNumber_143 : decode cX8_takeNumber 143 = .ok (.getfield 161, 3) := by decide +kernel
theorem dX8_takeNumber_146 : decode cX8_takeNumber 146 = .ok (.i2l, 1) := by decide +kernel
theorem dX8_takeNumber_147 : decode cX8_takeNumber 147 = .ok (.iload_n 1, 1) := by decide +kernel
theorem dX8_takeNumber_148 : decode cX8_takeNumber 148 = .ok (.i2l, 1) := by decide +kernel
theorem dX8_takeNumber_149 : decode cX8_takeNumber 149 = .ok (.iload_n 2, 1) := by decide +kernel
theorem dX8_takeNumber_150 : decode cX8_takeNumber 150 = .ok (.i2l, 1) := by decide +kernel
theorem dX8_takeNumber_151 : decode cX8_takeNumber 151 = .ok (.invokestatic 102, 3) := by decide +kernel
theorem dX8_takeNumber_154 : decode cX8_takeNumber 154 = .ok (.ifCond .ne 15, 3) := by decide +kernel
theorem dX8_takeNumber_157 : decode cX8_takeNumber 157 = .ok (.aload_n 0, 1) := by decide +kernel
theorem dX8_takeNumber_158 : decode cX8_takeNumber 158 = .ok (.iconst 2, 1) := by decide +kernel
theorem dX8_takeNumber_159 : decode cX8_takeNumber 159 = .ok (.aload_n 0, 1) := by decide +kernel
theorem dX8_takeNumber_160 : decode cX8_takeNumber 160 = .ok (.getfield 158, 3) := by decide +kernel
theorem dX8_takeNumber_163 : decode cX8_takeNumber 163 = .ok (.invokevirtual 154, 3) := by decide +kernel
theorem dX8_takeNumber_166 : decode cX8_takeNumber 166 = .ok (.goto 4, 3) := by decide +kernel
theorem dX8_takeNumber_169 : decode cX8_takeNumber 169 = .ok (.iconst 0, 1) := by decide +kernel
theorem dX8_takeNumber_170 : decode cX8_takeNumber 170 = .ok (.ireturn, 1) := by decide +kernel
theorem dX8_takeHouse_0 : decode cX8_takeHouse 0 = .ok (.aload_n 0, 1) := by decide +kernel
theorem dX8_takeHouse_1 : decode cX8_takeHouse 1 = .ok (.getfield 164, 3) := by decide +kernel
theorem dX8_takeHouse_4 : decode cX8_takeHouse 4 = .ok (.istore_n 1, 1) := by decide +kernel
theorem dX8_takeHouse_5 : decode cX8_takeHouse 5 = .ok (.aload_n 0, 1) := by decide +kernel
theorem dX8_takeHouse_6 : decode cX8_takeHouse 6 = .ok (.dup, 1) := by decide +kernel
theorem dX8_takeHouse_7 : decode cX8_takeHouse 7 = .ok (.getfield 164, 3) := by decide +kernel
theorem dX8_takeHouse_10 : decode cX8_takeHouse 10 = .ok (.iconst 1, 1) := by decide +kernel
theorem dX8_takeHouse_11 : decode cX8_takeHouse 11 = .ok (.iadd, 1) := by decide +kernel
theorem dX8_takeHouse_12 : decode cX8_takeHouse 12 = .ok (.putfield 164, 3) := by decide +kernel
theorem dX8_takeHouse_15 : decode cX8_takeHouse 15 = .ok (.aload_n 0, 1) := by decide +kernel
theorem dX8_takeHouse_16 : decode cX8_takeHouse 16 = .ok (.iconst 0, 1) := by decide +kernel
theorem dX8_takeHouse_17 : decode cX8_takeHouse 17 = .ok (.bipush 99, 2) := by decide +kernel
theorem dX8_takeHouse_19 : decode cX8_takeHouse 19 = .ok (.invokevirtual 167, 3) := by decide +kernel
theorem dX8_takeHouse_22 : decode cX8_takeHouse 22 = .ok (.istore_n 2, 1) := by decide +kernel
theorem dX8_takeHouse_23 : decode cX8_takeHouse 23 = .ok (.aload_n 0, 1) := by decide +kernel
theorem dX8_takeHouse_24 : decode cX8_takeHouse 24 = .ok (.getfield 44, 3) := by decide +kernel
theorem dX8_takeHouse_27 : decode cX8_takeHouse 27 = .ok (.iload_n 1, 1) := by decide +kernel
theorem dX8_takeHouse_28 : decode cX8_takeHouse 28 = .ok (.aload_n 0, 1) := by decide +kernel
theorem dX8_takeHouse_29 : decode cX8_takeHouse 29 = .ok (.getfield 161, 3) := by decide +kernel
theorem dX8_takeHouse_32 : decode cX8_takeHouse 32 = .ok (.iastore, 1) := by decide +kernel
theorem dX8_takeHouse_33 : decode cX8_takeHouse 33 = .ok (.iconst 0, 1) := by decide +kernel
theorem dX8_takeHouse_34 : decode cX8_takeHouse 34 = .ok (.istore_n 3, 1) := by decide +kernel
theorem dX8_takeHouse_35 : decode cX8_takeHouse 35 = .ok (.iload_n 2, 1) := by decide +kernel
theorem dX8_takeHouse_36 : decode cX8_takeHouse 36 = .ok (.ifCond .ne 98, 3) := by decide +kernel
theorem dX8_takeHouse_39 : decode cX8_takeHouse 39 = .ok (.aload_n 0, 1) := by decide +kernel
theorem dX8_takeHouse_40 : decode cX8_takeHouse 40 = .ok (.invokevirtual 127, 3) := by decide +kernel
theorem dX8_takeHouse_43 : decode cX8_takeHouse 43 = .ok (.i2l, 1) := by decide +kernel
theorem dX8_takeHouse_44 : decode cX8_takeHouse 44 = .ok (.ldc2_w 150, 3) := by decide +kernel
theorem dX8_takeHouse_47 : decode cX8_takeHouse 47 = .ok (.ldc2_w 152, 3) := by decide +kernel
theorem dX8_takeHouse_50 : decode cX8_takeHouse 50 = .ok (.invokestatic 102, 3) := by decide +kernel
theorem dX8_takeHouse_53 : decode cX8_takeHouse 53 = .ok (.ifCond .eq 81, 3) := by decide +kernel
theorem dX8_takeHouse_56 : decode cX8_takeHouse 56 = .ok (.aload_n 0, 1) := by decide +kernel
theorem dX8_takeHouse_57 : decode cX8_takeHouse 57 = .ok (.iconst 0, 1) := by decide +kernel
theorem dX8_takeHouse_58 : decode cX8_takeHouse 58 = .ok (.aload_n 0, 1) := by decide +kernel
theorem dX8_takeHouse_59 : decode cX8_takeHouse 59 = .ok (.getfield 170, 3) := by decide +kernel
theorem dX8_takeHouse_62 : decode cX8_takeHouse 62 = .ok (.iconst 1, 1) := by decide +kernel
theorem dX8_takeHouse_63 : decode cX8_takeHouse 63 = .ok (.isub, 1) := by decide +kernel
theorem dX8_takeHouse_64 : decode cX8_takeHouse 64 = .ok (.invokevirtual 167, 3) := by decide +kernel
theorem dX8_takeHouse_67 : decode cX8_takeHouse 67 = .ok (.istore_n 2, 1) := by decide +kernel
theorem dX8_takeHouse_68 : decode cX8_takeHouse 68 = .ok (.iload_n 2, 1) := by decide +kernel
theorem dX8_takeHouse_69 : decode cX8_takeHouse 69 = .ok (.ifCond .ne 20, 3) := by decide +kernel
theorem dX8_takeHouse_72 : decode cX8_takeHouse 72 = .ok (.iload_n 3, 1) := by decide +kernel
theorem dX8_takeHouse_73 : decode cX8_takeHouse 73 = .ok (.iconst 4, 1) := by decide +kernel
theorem dX8_takeHouse_74 : decode cX8_takeHouse 74 = .ok (.if_icmp .ne 15, 3) := by decide +kernel
theorem dX8_takeHouse_77 : decode cX8_takeHouse 77 = .ok (.aload_n 0, 1) := by decide +kernel
theorem dX8_takeHouse_78 : decode cX8_takeHouse 78 = .ok (.iconst 4, 1) := by decide +kernel
theorem dX8_takeHouse_79 : decode cX8_takeHouse 79 = .ok (.aload_n 0, 1) := by decide +kernel
theorem dX8_takeHouse_80 : decode cX8_takeHouse 80 = .ok (.getfield 158, 3) := by decide +kernel
theorem dX8_takeHouse_83 : decode cX8_takeHouse 83 = .ok (.invokevirtual 154, 3) := by decide +kernel
theorem dX8_takeHouse_86 : decode cX8_takeHouse 86 = .ok (.goto 4, 3) := by decide +kernel
theorem dX8_takeHouse_89 : decode cX8_takeHouse 89 = .ok (.iload_n 2, 1) := by decide +kernel
theorem dX8_takeHouse_90 : decode cX8_takeHouse 90 = .ok (.istore_n 2, 1) := by decide +kernel
theorem dX8_takeHouse_91 : decode cX8_takeHouse 91 = .ok (.iload_n 2, 1) := by decide +kernel
theorem dX8_takeHouse_92 : decode cX8_takeHouse 92 = .ok (.ifCond .ne (-57), 3) := by decide +kernel
theorem dX8_takeHouse_95 : decode cX8_takeHouse 95 = .ok (.aload_n 0, 1) := by decide +kernel
theorem dX8_takeHouse_96 : decode cX8_takeHouse 96 = .ok (.getfield 47, 3) := by decide +kernel
theorem dX8_takeHouse_99 : decode cX8_takeHouse 99 = .ok (.aload_n 0, 1) := by decide +kernel
theorem dX8_takeHouse_100 : decode cX8_takeHouse 100 = .ok (.getfield 173, 3) := by decide +kernel
theorem dX8_takeHouse_103 : decode cX8_takeHouse 103 = .ok (.aload_n 0, 1) := by decide +kernel
theorem dX8_takeHouse_104 : decode cX8_takeHouse 104 = .ok (.getfield 161, 3) := by decide +kernel
theorem dX8_takeHouse_107 : decode cX8_takeHouse 107 = .ok (.iastore, 1) := by decide +kernel
theorem dX8_takeHouse_108 : decode cX8_takeHouse 108 = .ok (.aload_n 0, 1) := by decide +kernel
theorem dX8_takeHouse_109 : decode cX8_takeHouse 109 = .ok (.getfield 50, 3) := by decide +kernel
theorem dX8_takeHouse_112 : decode cX8_takeHouse 112 = .ok (.aload_n 0, 1) := by decide +kernel
theorem dX8_takeHouse_113 : decode cX8_takeHouse 113 = .ok (.getfield 173, 3) := by decide +kernel
theorem dX8_takeHouse_116 : decode cX8_takeHouse 116 = .ok (.iload_n 1, 1) := by decide +kernel
theorem dX8_takeHouse_117 : decode cX8_takeHouse 117 = .ok (.iastore, 1) := by decide +kernel
theorem dX8_takeHouse_118 : decode cX8_takeHouse 118 = .ok (.aload_n 0, 1) := by decide +kernel
theorem dX8_takeHouse_119 : decode cX8_takeHouse 119 = .ok (.dup, 1) := by decide +kernel
theorem dX8_takeHouse_120 : decode cX8_takeHouse 120 = .ok (.getfield 173, 3) := by decide +kernel
theorem dX8_takeHouse_123 : decode cX8_takeHouse 123 = .ok (.iconst 1, 1) := by decide +kernel
theorem dX8_takeHouse_124 : decode cX8_takeHouse 124 = .ok (.iadd, 1) := by decide +kernel
theorem dX8_takeHouse_125 : decode cX8_takeHouse 125 = .ok (.putfield 173, 3) := by decide +kernel
theorem dX8_takeHouse_128 : decode cX8_takeHouse 128 = .ok (.iinc 3 1, 3) := by decide +kernel
theorem dX8_takeHouse_131 : decode cX8_takeHouse 131 = .ok (.goto (-96), 3) := by decide +kernel
theorem dX8_takeHouse_134 : decode cX8_takeHouse 134 = .ok (.iload_n 2, 1) := by decide +kernel
theorem dX8_takeHouse_135 : decode cX8_takeHouse 135 = .ok (.ireturn, 1) := by decide +kernel
theorem dX8_takeWorth_0 : decode cX8_takeWorth 0 = .ok (.aload_n 0, 1) := by decide +kernel
theorem dX8_takeWorth_1 : decode cX8_takeWorth 1 = .ok (.iconst 0, 1) := by decide +kernel
theorem dX8_takeWorth_2 : decode cX8_takeWorth 2 = .ok (.aload_n 0, 1) := by decide +kernel
theorem dX8_takeWorth_3 : decode cX8_takeWorth 3 = .ok (.getfield 164, 3) := by decide +kernel
theorem dX8_takeWorth_6 : decode cX8_takeWorth 6 = .ok (.iconst 1, 1) := by decide +kernel
theorem dX8_takeWorth_7 : decode cX8_takeWorth 7 = .ok (.isub, 1) := by decide +kernel
theorem dX8_takeWorth_8 : decode cX8_takeWorth 8 = .ok (.invokevirtual 167, 3) := by decide +kernel
theorem dX8_takeWorth_11 : decode cX8_takeWorth 11 = .ok (.istore_n 1, 1) := by decide +kernel
theorem dX8_takeWorth_12 : decode cX8_takeWorth 12 = .ok (.aload_n 0, 1) := by decide +kernel
theorem dX8_takeWorth_13 : decode cX8_takeWorth 13 = .ok (.getfield 161, 3) := by decide +kernel
theorem dX8_takeWorth_16 : decode cX8_takeWorth 16 = .ok (.istore_n 2, 1) := by decide +kernel
theorem dX8_takeWorth_17 : decode cX8_takeWorth 17 = .ok (.iload_n 1, 1) := by decide +kernel
theorem dX8_takeWorth_18 : decode cX8_takeWorth 18 = .ok (.ifCond .le 7, 3) := by decide +kernel
theorem dX8_takeWorth_21 : decode cX8_takeWorth 21 = .ok (.iload_n 1, 1) := by decide +kernel
theorem dX8_takeWorth_22 : decode cX8_takeWorth 22 = .ok (.goto 14, 3) := by decide +kernel
theorem dX8_takeWorth_25 : decode cX8_takeWorth 25 = .ok (.aload_n 0, 1) := by decide +kernel
theorem dX8_takeWorth_26 : decode cX8_takeWorth 26 = .ok (.iconst 0, 1) := by decide +kernel
theorem dX8_takeWorth_27 : decode cX8_takeWorth 27 = .ok (.aload_n 0, 1) := by decide +kernel
theorem dX8_takeWorth_28 : decode cX8_takeWorth 28 = .ok (.getfield 170, 3) := by decide +kernel
theorem dX8_takeWorth_31 : decode cX8_takeWorth 31 = .ok (.iconst 1, 1) := by decide +kernel
theorem dX8_takeWorth_32 : decode cX8_takeWorth 32 = .ok (.isub, 1) := by decide +kernel
theorem dX8_takeWorth_33 : decode cX8_takeWorth 33 = .ok (.invokevirtual 167, 3) := by decide +kernel
theorem dX8_takeWorth_36 : decode cX8_takeWorth 36 = .ok (.istore_n 1, 1) := by decide +kernel
theorem dX8_takeWorth_37 : decode cX8_takeWorth 37 = .ok (.iload_n 1, 1) := by decide +kernel
theorem dX8_takeWorth_38 : decode cX8_takeWorth 38 = .ok (.ifCond .le 5, 3) := by decide +kernel
theorem dX8_takeWorth_41 : decode cX8_takeWorth 41 = .ok (.iload_n 1, 1) := by decide +kernel
theorem dX8_takeWorth_42 : decode cX8_takeWorth 42 = .ok (.ireturn, 1) := by decide +kernel
theorem dX8_takeWorth_43 : decode cX8_takeWorth 43 = .ok (.bipush 6, 2) := by decide +kernel
theorem dX8_takeWorth_45 : decode cX8_takeWorth 45 = .ok (.iload_n 2, 1) := by decide +kernel
theorem dX8_takeWorth_46 : decode cX8_takeWorth 46 = .ok (.imul, 1) := by decide +kernel
theorem dX8_takeWorth_47 : decode cX8_takeWorth 47 = .ok (.aload_n 0, 1) := by decide +kernel
theorem dX8_takeWorth_48 : decode cX8_takeWorth 48 = .ok (.getfield 161, 3) := by decide +kernel
theorem dX8_takeWorth_51 : decode cX8_takeWorth 51 = .ok (.iadd, 1) := by decide +kernel
theorem dX8_takeWorth_52 : decode cX8_takeWorth 52 = .ok (.istore_n 3, 1) := by decide +kernel
theorem dX8_takeWorth_53 : decode cX8_takeWorth 53 = .ok (.aload_n 0, 1) := by decide +kernel
theorem dX8_takeWorth_54 : decode cX8_takeWorth 54 = .ok (.getfield 53, 3) := by decide +kernel
theorem dX8_takeWorth_57 : decode cX8_takeWorth 57 = .ok (.iload_n 3, 1) := by decide +kernel
theorem dX8_takeWorth_58 : decode cX8_takeWorth 58 = .ok (.iaload, 1) := by decide +kernel
theorem dX8_takeWorth_59 : decode cX8_takeWorth 59 = .ok (.ifCond .lt 13, 3) := by decide +kernel
theorem dX8_takeWorth_62 : decode cX8_takeWorth 62 = .ok (.aload_n 0, 1) := by decide +kernel
theorem dX8_takeWorth_63 : decode cX8_takeWorth 63 = .ok (.iconst 4, 1) := by decide +kernel
theorem dX8_takeWorth_64 : decode cX8_takeWorth 64 = .ok (.aload_n 0, 1) := by decide +kernel
theorem dX8_takeWorth_65 : decode cX8_takeWorth 65 = .ok (.getfield 158, 3) := by decide +kernel
theorem dX8_takeWorth_68 : decode cX8_takeWorth 68 = .ok (.invokevirtual 154, 3) := by decide +kernel
theorem dX8_takeWorth_71 : decode cX8_takeWorth 71 = .ok (.ireturn, 1) := by decide +kernel
theorem dX8_takeWorth_72 : decode cX8_takeWorth 72 = .ok (.aload_n 0, 1) := by decide +kernel
theorem dX8_takeWorth_73 : decode cX8_takeWorth 73 = .ok (.dup, 1) := by decide +kernel
theorem dX8_takeWorth_74 : decode cX8_takeWorth 74 = .ok (.getfield 176, 3) := by decide +kernel
theorem dX8_takeWorth_77 : decode cX8_takeWorth 77 = .ok (.iconst 1, 1) := by decide +kernel
theorem dX8_takeWorth_78 : decode cX8_takeWorth 78 = .ok (.iadd, 1) := by decide +kernel
theorem dX8_takeWorth_79 : decode cX8_takeWorth 79 = .ok (.putfield 176, 3) := by decide +kernel
theorem dX8_takeWorth_82 : decode cX8_takeWorth 82 = .ok (.aload_n 0, 1) := by decide +kernel
theorem dX8_takeWorth_83 : decode cX8_takeWorth 83 = .ok (.iconst 0, 1) := by decide +kernel
theorem dX8_takeWorth_84 : decode cX8_takeWorth 84 = .ok (.bipush 99, 2) := by decide +kernel
theorem dX8_takeWorth_86 : decode cX8_takeWorth 86 = .ok (.invokevirtual 167, 3) := by decide +kernel
theorem dX8_takeWorth_89 : decode cX8_takeWorth 89 = .ok (.istore_n 1, 1) := by decide +kernel
theorem dX8_takeWorth_90 : decode cX8_takeWorth 90 = .ok (.aload_n 0, 1) := by decide +kernel
theorem dX8_takeWorth_91 : decode cX8_takeWorth 91 = .ok (.getfield 53, 3) := by decide +kernel
theorem dX8_takeWorth_94 : decode cX8_takeWorth 94 = .ok (.iload_n 3, 1) := by decide +kernel
theorem dX8_takeWorth_95 : decode cX8_takeWorth 95 = .ok (.aload_n 0, 1) := by decide +kernel
theorem dX8_takeWorth_96 : decode cX8_takeWorth 96 = .ok (.getfield 161, 3) := by decide +kernel
theorem dX8_takeWorth_99 : decode cX8_takeWorth 99 = .ok (.iastore, 1) := by decide +kernel
theorem dX8_takeWorth_100 : decode cX8_takeWorth 100 = .ok (.iload_n 1, 1) := by decide +kernel
theorem dX8_takeWorth_101 : decode cX8_takeWorth 101 = .ok (.ireturn, 1) := by decide +kernel
theorem dX8_takeClause_0 : decode cX8_takeClause 0 = .ok (.aload_n 0, 1) := by decide +kernel
theorem dX8_takeClause_1 : decode cX8_takeClause 1 = .ok (.invokevirtual 179, 3) := by decide +kernel
theorem dX8_takeClause_4 : decode cX8_takeClause 4 = .ok (.aload_n 0, 1) := by decide +kernel
theorem dX8_takeClause_5 : decode cX8_takeClause 5 = .ok (.getfield 131, 3) := by decide +kernel
theorem dX8_takeClause_8 : decode cX8_takeClause 8 = .ok (.bipush 115, 2) := by decide +kernel
theorem dX8_takeClause_10 : decode cX8_takeClause 10 = .ok (.bipush 111, 2) := by decide +kernel
theorem dX8_takeClause_12 : decode cX8_takeClause 12 = .ok (.bipush 114, 2) := by decide +kernel
theorem dX8_takeClause_14 : decode cX8_takeClause 14 = .ok (.bipush 116, 2) := by decide +kernel
theorem dX8_takeClause_16 : decode cX8_takeClause 16 = .ok (.bipush 115, 2) := by decide +kernel
theorem dX8_takeClause_18 : decode cX8_takeClause 18 = .ok (.invokestatic 182, 3) := by decide +kernel
theorem dX8_takeClause_21 : decode cX8_takeClause 21 = .ok (.lcmp, 1) := by decide +kernel
theorem dX8_takeClause_22 : decode cX8_takeClause 22 = .ok (.ifCond .ne 7, 3) := by decide +kernel
theorem dX8_takeClause_25 : decode cX8_takeClause 25 = .ok (.iconst 0, 1) := by decide +kernel
theorem dX8_takeClause_26 : decode cX8_takeClause 26 = .ok (.goto 54, 3) := by decide +kernel
theorem dX8_takeClause_29 : decode cX8_takeClause 29 = .ok (.aload_n 0, 1) := by decide +kernel
theorem dX8_takeClause_30 : decode cX8_takeClause 30 = .ok (.getfield 131, 3) := by decide +kernel
theorem dX8_takeClause_33 : decode cX8_takeClause 33 = .ok (.bipush 104, 2) := by decide +kernel
theorem dX8_takeClause_35 : decode cX8_takeClause 35 = .ok (.bipush 111, 2) := by decide +kernel
theorem dX8_takeClause_37 : decode cX8_takeClause 37 = .ok (.bipush 117, 2) := by decide +kernel
theorem dX8_takeClause_39 : decode cX8_takeClause 39 = .ok (.bipush 115, 2) := by decide +kernel
theorem dX8_takeClause_41 : decode cX8_takeClause 41 = .ok (.bipush 101, 2) := by decide +kernel
theorem dX8_takeClause_43 : decode cX8_takeClause 43 = .ok (.invokestatic 182, 3) := by decide +kernel
theorem dX8_takeClause_46 : decode cX8_takeClause 46 = .ok (.lcmp, 1) := by decide +kernel
theorem dX8_takeClause_47 : decode cX8_takeClause 47 = .ok (.ifCond .ne 7, 3) := by decide +kernel
theorem dX8_takeClause_50 : decode cX8_takeClause 50 = .ok (.iconst 1, 1) := by decide +kernel
theorem dX8_takeClause_51 : decode cX8_takeClause 51 = .ok (.goto 29, 3) := by decide +kernel
theorem dX8_takeClause_54 : decode cX8_takeClause 54 = .ok (.aload_n 0, 1) := by decide +kernel
theorem dX8_takeClause_55 : decode cX8_takeClause 55 = .ok (.getfield 131, 3) := by decide +kernel
theorem dX8_takeClause_58 : decode cX8_takeClause 58 = .ok (.bipush 119, 2) := by decide +kernel
theorem dX8_takeClause_60 : decode cX8_takeClause 60 = .ok (.bipush 111, 2) := by decide +kernel
theorem dX8_takeClause_62 : decode cX8_takeClause 62 = .ok (.bipush 114, 2) := by decide +kernel
theorem dX8_takeClause_64 : decode cX8_takeClause 64 = .ok (.bipush 116, 2) := by decide +kernel
theorem dX8_takeClause_66 : decode cX8_takeClause 66 = .ok (.bipush 104, 2) := by decide +kernel
theorem dX8_takeClause_68 : decode cX8_takeClause 68 = .ok (.invokestatic 182, 3) := by decide +kernel
theorem dX8_takeClause_71 : decode cX8_takeClause 71 = .ok (.lcmp, 1) := by decide +kernel
theorem dX8_takeClause_72 : decode cX8_takeClause 72 = .ok (.ifCond .ne 7, 3) := by decide +kernel
theorem dX8_takeClause_75 : decode cX8_takeClause 75 = .ok (.iconst 2, 1) := by decide +kernel
theorem dX8_takeClause_76 : decode cX8_takeClause 76 = .ok (.goto 4, 3) := by decide +kernel
theorem dX8_takeClause_79 : decode cX8_takeClause 79 = .ok (.iconst (-1), 1) := by decide +kernel
theorem dX8_takeClause_80 : decode cX8_takeClause 80 = .ok (.istore_n 1, 1) := by decide +kernel
theorem dX8_takeClause_81 : decode cX8_takeClause 81 = .ok (.iload_n 1, 1) := by decide +kernel
theorem dX8_takeClause_82 : decode cX8_takeClause 82 = .ok (.ifCond .lt 14, 3) := by decide +kernel
theorem dX8_takeClause_85 : decode cX8_takeClause 85 = .ok (.iload_n 1, 1) := by decide +kernel
theorem dX8_takeClause_86 : decode cX8_takeClause 86 = .ok (.ifCond .le 20, 3) := by decide +kernel
theorem dX8_takeClause_89 : decode cX8_takeClause 89 = .ok (.aload_n 0, 1) := by decide +kernel
theorem dX8_takeClause_90 : decode cX8_takeClause 90 = .ok (.getfield 170, 3) := by decide +kernel
theorem dX8_takeClause_93 : decode cX8_takeClause 93 = .ok (.ifCond .ne 13, 3) := by decide +kernel
theorem dX8_takeClause_96 : decode cX8_takeClause 96 = .ok (.aload_n 0, 1) := by decide +kernel
theorem dX8_takeClause_97 : decode cX8_takeClause 97 = .ok (.iconst 1, 1) := by decide +kernel
theorem dX8_takeClause_98 : decode cX8_takeClause 98 = .ok (.aload_n 0, 1) := by decide +kernel
theorem dX8_takeClause_99 : decode cX8_takeClause 99 = .ok (.getfield 124, 3) := by decide +kernel
theorem dX8_takeClause_102 : decode cX8_takeClause 102 = .ok (.invokevirtual 154, 3) := by decide +kernel
theorem dX8_takeClause_105 : decode cX8_takeClause 105 = .ok (.ireturn, 1) := by decide +kernel
theorem dX8_takeClause_106 : decode cX8_takeClause 106 = .ok (.iload_n 1, 1) := by decide +kernel
theorem dX8_takeClause_107 : decode cX8_takeClause 107 = .ok (.ifCond .ne 13, 3) := by decide +kernel
theorem dX8_takeClause_110 : decode cX8_takeClause 110 = .ok (.aload_n 0, 1) := by decide +kernel
theorem dX8_takeClause_111 : decode cX8_takeClause 111 = .ok (.getfield 170, 3) := by decide +kernel
theorem dX8_takeClause_114 : decode cX8_takeClause 114 = .ok (.ifCond .le 41, 3) := by decide +kernel
theorem dX8_takeClause_117 : decode cX8_takeClause 117 = .ok (.goto 28, 3) := by decide +kernel
theorem dX8_takeClause_120 : decode cX8_takeClause 120 = .ok (.iload_n 1, 1) := by decide +kernel
theorem dX8_takeClause_121 : decode cX8_takeClause 121 = .ok (.iconst 1, 1) := by decide +kernel
theorem dX8_takeClause_122 : decode cX8_takeClause 122 = .ok (.if_icmp .ne 14, 3) := by decide +kernel
theorem dX8_takeClause_125 : decode cX8_takeClause 125 = .ok (.aload_n 0, 1) := by decide +kernel
theorem dX8_takeClause_126 : decode cX8_takeClause 126 = .ok (.getfield 164, 3) := by decide +kernel
theorem dX8_takeClause_129 : decode cX8_takeClause 129 = .ok (.iconst 5, 1) := by decide +kernel
theorem dX8_takeClause_130 : decode cX8_takeClause 130 = .ok (.if_icmp .ne 25, 3) := by decide +kernel
theorem dX8_takeClause_133 : decode cX8_takeClause 133 = .ok (.goto 12, 3) := by decide +kernel
theorem dX8_takeClause_136 : decode cX8_takeClause 136 = .ok (.aload_n 0, 1) := by decide +kernel
theorem dX8_takeClause_137 : decode cX8_takeClause 137 = .ok (.getfield 176, 3) := by decide +kernel
theorem dX8_takeClause_140 : decode cX8_takeClause 140 = .ok (.bipush 30, 2) := by decide +kernel
theorem dX8_takeClause_142 : decode cX8_takeClause 142 = .ok (.if_icmp .ne 13, 3) := by decide +kernel
theorem dX8_takeClause_145 : decode cX8_takeClause 145 = .ok (.aload_n 0, 1) := by decide +kernel
theorem dX8_takeClause_146 : decode cX8_takeClause 146 = .ok (.iconst 3, 1) := by decide +kernel
theorem dX8_takeClause_147 : decode cX8_takeClause 147 = .ok (.aload_n 0, 1) := by decide +kernel
theorem dX8_takeClause_148 : decode cX8_takeClause 148 = .ok (.getfield 124, 3) := by decide +kernel
theorem dX8_takeClause_151 : decode cX8_takeClause 151 = .ok (.invokevirtual 154, 3) := by decide +kernel
theorem dX8_takeClause_154 : decode cX8_takeClause 154 = .ok (.ireturn, 1) := by decide +kernel
theorem dX8_takeClause_155 : decode cX8_takeClause 155 = .ok (.aload_n 0, 1) := by decide +kernel
theorem dX8_takeClause_156 : decode cX8_takeClause 156 = .ok (.aload_n 0, 1) := by decide +kernel
theorem dX8_takeClause_157 : decode cX8_takeClause 157 = .ok (.getfield 135, 3) := by decide +kernel
theorem dX8_takeClause_160 : decode cX8_takeClause 160 = .ok (.putfield 124, 3) := by decide +kernel
theorem dX8_takeClause_163 : decode cX8_takeClause 163 = .ok (.iconst 0, 1) := by decide +kernel
theorem dX8_takeClause_164 : decode cX8_takeClause 164 = .ok (.istore_n 2, 1) := by decide +kernel
theorem dX8_takeClause_165 : decode cX8_takeClause 165 = .ok (.iload_n 1, 1) := by decide +kernel
theorem dX8_takeClause_166 : decode cX8_takeClause 166 = .ok (.ifCond .ne 22, 3) := by decide +kernel
theorem dX8_takeClause_169 : decode cX8_takeClause 169 = .ok (.aload_n 0, 1) := by decide +kernel
theorem dX8_takeClause_170 : decode cX8_takeClause 170 = .ok (.iconst 1, 1) := by decide +kernel
theorem dX8_takeClause_171 : decode cX8_takeClause 171 = .ok (.bipush 6, 2) := by decide +kernel
theorem dX8_takeClause_173 : decode cX8_takeClause 173 = .ok (.invokevirtual 167, 3) := by decide +kernel
theorem dX8_takeClause_176 : decode cX8_takeClause 176 = .ok (.istore_n 2, 1) := by decide +kernel
theorem dX8_takeClause_177 : decode cX8_takeClause 177 = .ok (.aload_n 0, 1) := by decide +kernel
theorem dX8_takeClause_178 : decode cX8_takeClause 178 = .ok (.aload_n 0, 1) := by decide +kernel
theorem dX8_takeClause_179 : decode cX8_takeClause 179 = .ok (.getfield 161, 3) := by decide +kernel
theorem dX8_takeClause_182 : decode cX8_takeClause 182 = .ok (.putfield 170, 3) := by decide +kernel
theorem dX8_takeClause_185 : decode cX8_takeClause 185 = .ok (.goto 20, 3) := by decide +kernel
theorem dX8_takeClause_188 : decode cX8_takeClause 188 = .ok (.iload_n 1, 1) := by decide +kernel
theorem dX8_takeClause_189 : decode cX8_takeClause 189 = .ok (.iconst 1, 1) := by decide +kernel
theorem dX8_takeClause_190 : decode cX8_takeClause 190 = .ok (.if_icmp .ne 10, 3) := by decide +kernel
theorem dX8_takeClause_193 : decode cX8_takeClause 193 = .ok (.aload_n 0, 1) := by decide +kernel
theorem dX8_takeClause_194 : decode cX8_takeClause 194 = .ok (.invokevirtual 186, 3) := by decide +kernel
theorem dX8_takeClause_197 : decode cX8_takeClause 197 = .ok (.goto 7, 3) := by decide +kernel
theorem dX8_takeClause_200 : decode cX8_takeClause 200 = .ok (.aload_n 0, 1) := by decide +kernel
theorem dX8_takeClause_201 : decode cX8_takeClause 201 = .ok (.invokevirtual 189, 3) := by decide +kernel
theorem dX8_takeClause_204 : decode cX8_takeClause 204 = .ok (.istore_n 2, 1) := by decide +kernel
theorem dX8_takeClause_205 : decode cX8_takeClause 205 = .ok (.iload_n 2, 1) := by decide +kernel
theorem dX8_takeClause_206 : decode cX8_takeClause 206 = .ok (.ifCond .ne 22, 3) := by decide +kernel
theorem dX8_takeClause_209 : decode cX8_takeClause 209 = .ok (.aload_n 0, 1) := by decide +kernel
theorem dX8_takeClause_210 : decode cX8_takeClause 210 = .ok (.invokevirtual 127, 3) := by decide +kernel
theorem dX8_takeClause_213 : decode cX8_takeClause 213 = .ok (.bipush 59, 2) := by decide +kernel
theorem dX8_takeClause_215 : decode cX8_takeClause 215 = .ok (.if_icmp .eq 13, 3) := by decide +kernel
theorem dX8_takeClause_218 : decode cX8_takeClause 218 = .ok (.aload_n 0, 1) := by decide +kernel
theorem dX8_takeClause_219 : decode cX8_takeClause 219 = .ok (.iconst 1, 1) := by decide +kernel
theorem dX8_takeClause_220 : decode cX8_takeClause 220 = .ok (.aload_n 0, 1) := by decide +kernel
theorem dX8_takeClause_221 : decode cX8_takeClause 221 = .ok (.getfield 124, 3) := by decide +kernel
theorem dX8_takeClause_224 : decode cX8_takeClause 224 = .ok (.invokevirtual 154, 3) := by decide +kernel
theorem dX8_takeClause_227 : decode cX8_takeClause 227 = .ok (.ireturn, 1) := by decide +kernel
theorem dX8_takeClause_228 : decode cX8_takeClause 228 = .ok (.aload_n 0, 1) := by decide +kernel
theorem dX8_takeClause_229 : decode cX8_takeClause 229 = .ok (.dup, 1) := by decide +kernel
theorem dX8_takeClause_230 : decode cX8_takeClause 230 = .ok (.getfield 124, 3) := by decide +kernel
theorem dX8_takeClause_233 : decode cX8_takeClause 233 = .ok (.iconst 1, 1) := by decide +kernel
theorem dX8_takeClause_234 : decode cX8_takeClause 234 = .ok (.iadd, 1) := by decide +kernel
theorem dX8_takeClause_235 : decode cX8_takeClause 235 = .ok (.putfield 124, 3) := by decide +kernel
theorem dX8_takeClause_238 : decode cX8_takeClause 238 = .ok (.iload_n 2, 1) := by decide +kernel
theorem dX8_takeClause_239 : decode cX8_takeClause 239 = .ok (.ireturn, 1) := by decide +kernel
theorem dX8_spit_0 : decode cX8_spit 0 = .ok (.aload_n 0, 1) := by decide +kernel
theorem dX8_spit_1 : decode cX8_spit 1 = .ok (.iconst (-1), 1) := by decide +kernel
theorem dX8_spit_2 : decode cX8_spit 2 = .ok (.putfield 40, 3) := by decide +kernel
theorem dX8_spit_5 : decode cX8_spit 5 = .ok (.aload_n 0, 1) := by decide +kernel
theorem dX8_spit_6 : decode cX8_spit 6 = .ok (.iconst 0, 1) := by decide +kernel
theorem dX8_spit_7 : decode cX8_spit 7 = .ok (.putfield 124, 3) := by decide +kernel
theorem dX8_spit_10 : decode cX8_spit 10 = .ok (.aload_n 0, 1) := by decide +kernel
theorem dX8_spit_11 : decode cX8_spit 11 = .ok (.iconst 0, 1) := by decide +kernel
theorem dX8_spit_12 : decode cX8_spit 12 = .ok (.putfield 170, 3) := by decide +kernel
theorem dX8_spit_15 : decode cX8_spit 15 = .ok (.aload_n 0, 1) := by decide +kernel
theorem dX8_spit_16 : decode cX8_spit 16 = .ok (.iconst 0, 1) := by decide +kernel
theorem dX8_spit_17 : decode cX8_spit 17 = .ok (.putfield 164, 3) := by decide +kernel
theorem dX8_spit_20 : decode cX8_spit 20 = .ok (.aload_n 0, 1) := by decide +kernel
theorem dX8_spit_21 : decode cX8_spit 21 = .ok (.iconst 0, 1) := by decide +kernel
theorem dX8_spit_22 : decode cX8_spit 22 = .ok (.putfield 173, 3) := by decide +kernel
theorem dX8_spit_25 : decode cX8_spit 25 = .ok (.aload_n 0, 1) := by decide +kernel
theorem dX8_spit_26 : decode cX8_spit 26 = .ok (.iconst 0, 1) := by decide +kernel
theorem dX8_spit_27 : decode cX8_spit 27 = .ok (.putfield 176, 3) := by decide +kernel
theorem dX8_spit_30 : decode cX8_spit 30 = .ok (.iconst 0, 1) := by decide +kernel
theorem dX8_spit_31 : decode cX8_spit 31 = .ok (.istore_n 1, 1) := by decide +kernel
theorem dX8_spit_32 : decode cX8_spit 32 = .ok (.iload_n 1, 1) := by decide +kernel
theorem dX8_spit_33 : decode cX8_spit 33 = .ok (.bipush 30, 2) := by decide +kernel
theorem dX8_spit_35 : decode cX8_spit 35 = .ok (.if_icmp .ge 16, 3) := by decide +kernel
theorem dX8_spit_38 : decode cX8_spit 38 = .ok (.aload_n 0, 1) := by decide +kernel
theorem dX8_spit_39 : decode cX8_spit 39 = .ok (.getfield 53, 3) := by decide +kernel
theorem dX8_spit_42 : decode cX8_spit 42 = .ok (.iload_n 1, 1) := by decide +kernel
theorem dX8_spit_43 : decode cX8_spit 43 = .ok (.iconst (-1), 1) := by decide +kernel
theorem dX8_spit_44 : decode cX8_spit 44 = .ok (.iastore, 1) := by decide +kernel
theorem dX8_spit_45 : decode cX8_spit 45 = .ok (.iinc 1 1, 3) := by decide +kernel
theorem dX8_spit_48 : decode cX8_spit 48 = .ok (.goto (-16), 3) := by decide +kernel
theorem dX8_spit_51 : decode cX8_spit 51 = .ok (.iconst 0, 1) := by decide +kernel
theorem dX8_spit_52 : decode cX8_spit 52 = .ok (.istore_n 1, 1) := by decide +kernel
theorem dX8_spit_53 : decode cX8_spit 53 = .ok (.iload_n 1, 1) := by decide +kernel
theorem dX8_spit_54 : decode cX8_spit 54 = .ok (.ifCond .ne 18, 3) := by decide +kernel
theorem dX8_spit_57 : decode cX8_spit 57 = .ok (.aload_n 0, 1) := by decide +kernel
theorem dX8_spit_58 : decode cX8_spit 58 = .ok (.invokevirtual 127, 3) := by decide +kernel
theorem dX8_spit_61 : decode cX8_spit 61 = .ok (.ifCond .lt 11, 3) := by decide +kernel
theorem dX8_spit_64 : decode cX8_spit 64 = .ok (.aload_n 0, 1) := by decide +kernel
theorem dX8_spit_65 : decode cX8_spit 65 = .ok (.invokevirtual 192, 3) := by decide +kernel
theorem dX8_spit_68 : decode cX8_spit 68 = .ok (.istore_n 1, 1) := by decide +kernel
theorem dX8_spit_69 : decode cX8_spit 69 = .ok (.goto (-16), 3) := by decide +kernel
theorem dX8_spit_72 : decode cX8_spit 72 = .ok (.aload_n 0, 1) := by decide +kernel
theorem dX8_spit_73 : decode cX8_spit 73 = .ok (.iconst 0, 1) := by decide +kernel
theorem dX8_spit_74 : decode cX8_spit 74 = .ok (.putfield 118, 3) := by decide +kernel
theorem dX8_spit_77 : decode cX8_spit 77 = .ok (.iload_n 1, 1) := by decide +kernel
theorem dX8_spit_78 : decode cX8_spit 78 = .ok (.ifCond .le 8, 3) := by decide +kernel
theorem dX8_spit_81 : decode cX8_spit 81 = .ok (.bipush (-10), 2) := by decide +kernel
theorem dX8_spit_83 : decode cX8_spit 83 = .ok (.iload_n 1, 1) := by decide +kernel
theorem dX8_spit_84 : decode cX8_spit 84 = .ok (.isub, 1) := by decide +kernel
theorem dX8_spit_85 : decode cX8_spit 85 = .ok (.ireturn, 1) := by decide +kernel
theorem dX8_spit_86 : decode cX8_spit 86 = .ok (.aload_n 0, 1) := by decide +kernel
theorem dX8_spit_87 : decode cX8_spit 87 = .ok (.aload_n 0, 1) := by decide +kernel
theorem dX8_spit_88 : decode cX8_spit 88 = .ok (.getfield 170, 3) := by decide +kernel
theorem dX8_spit_91 : decode cX8_spit 91 = .ok (.putfield 96, 3) := by decide +kernel
theorem dX8_spit_94 : decode cX8_spit 94 = .ok (.aload_n 0, 1) := by decide +kernel
theorem dX8_spit_95 : decode cX8_spit 95 = .ok (.aload_n 0, 1) := by decide +kernel
theorem dX8_spit_96 : decode cX8_spit 96 = .ok (.getfield 164, 3) := by decide +kernel
theorem dX8_spit_99 : decode cX8_spit 99 = .ok (.putfield 99, 3) := by decide +kernel
theorem dX8_spit_102 : decode cX8_spit 102 = .ok (.aload_n 0, 1) := by decide +kernel
theorem dX8_spit_103 : decode cX8_spit 103 = .ok (.aload_n 0, 1) := by decide +kernel
theorem dX8_spit_104 : decode cX8_spit 104 = .ok (.getfield 173, 3) := by decide +kernel
theorem dX8_spit_107 : decode cX8_spit 107 = .ok (.putfield 112, 3) := by decide +kernel
theorem dX8_spit_110 : decode cX8_spit 110 = .ok (.iconst 0, 1) := by decide +kernel
theorem dX8_spit_111 : decode cX8_spit 111 = .ok (.istore_n 2, 1) := by decide +kernel
theorem dX8_spit_112 : decode cX8_spit 112 = .ok (.iload_n 2, 1) := by decide +kernel
theorem dX8_spit_113 : decode cX8_spit 113 = .ok (.iconst 5, 1) := by decide +kernel
theorem dX8_spit_114 : decode cX8_spit 114 = .ok (.if_icmp .ge 21, 3) := by decide +kernel
theorem dX8_spit_117 : decode cX8_spit 117 = .ok (.aload_n 0, 1) := by decide +kernel
theorem dX8_spit_118 : decode cX8_spit 118 = .ok (.getfield 7, 3) := by decide +kernel
theorem dX8_spit_121 : decode cX8_spit 121 = .ok (.iload_n 2, 1) := by decide +kernel
theorem dX8_spit_122 : decode cX8_spit 122 = .ok (.aload_n 0, 1) := by decide +kernel
theorem dX8_spit_123 : decode cX8_spit 123 = .ok (.getfield 44, 3) := by decide +kernel
theorem dX8_spit_126 : decode cX8_spit 126 = .ok (.iload_n 2, 1) := by decide +kernel
theorem dX8_spit_127 : decode cX8_spit 127 = .ok (.iaload, 1) := by decide +kernel
theorem dX8_spit_128 : decode cX8_spit 128 = .ok (.iastore, 1) := by decide +kernel
theorem dX8_spit_129 : decode cX8_spit 129 = .ok (.iinc 2 1, 3) := by decide +kernel
theorem dX8_spit_132 : decode cX8_spit 132 = .ok (.goto (-20), 3) := by decide +kernel
theorem dX8_spit_135 : decode cX8_spit 135 = .ok (.iconst 0, 1) := by decide +kernel
theorem dX8_spit_136 : decode cX8_spit 136 = .ok (.istore_n 2, 1) := by decide +kernel
theorem dX8_spit_137 : decode cX8_spit 137 = .ok (.iload_n 2, 1) := by decide +kernel
theorem dX8_spit_138 : decode cX8_spit 138 = .ok (.bipush 30, 2) := by decide +kernel
theorem dX8_spit_140 : decode cX8_spit 140 = .ok (.if_icmp .ge 34, 3) := by decide +kernel
theorem dX8_spit_143 : decode cX8_spit 143 = .ok (.aload_n 0, 1) := by decide +kernel
theorem dX8_spit_144 : decode cX8_spit 144 = .ok (.getfield 13, 3) := by decide +kernel
theorem dX8_spit_147 : decode cX8_spit 147 = .ok (.iload_n 2, 1) := by decide +kernel
theorem dX8_spit_148 : decode cX8_spit 148 = .ok (.aload_n 0, 1) := by decide +kernel
theorem dX8_spit_149 : decode cX8_spit 149 = .ok (.getfield 53, 3) := by decide +kernel
theorem dX8_spit_152 : decode cX8_spit 152 = .ok (.iload_n 2, 1) := by decide +kernel
theorem dX8_spit_153 : decode cX8_spit 153 = .ok (.iaload, 1) := by decide +kernel
theorem dX8_spit_154 : decode cX8_spit 154 = .ok (.ifCond .ge 7, 3) := by decide +kernel
theorem dX8_spit_157 : decode cX8_spit 157 = .ok (.iconst 0, 1) := by decide +kernel
theorem dX8_spit_158 : decode cX8_spit 158 = .ok (.goto 9, 3) := by decide +kernel
theorem dX8_spit_161 : decode cX8_spit 161 = .ok (.aload_n 0, 1) := by decide +kernel
theorem dX8_spit_162 : decode cX8_spit 162 = .ok (.getfield 53, 3) := by decide +kernel
theorem dX8_spit_165 : decode cX8_spit 165 = .ok (.iload_n 2, 1) := by decide +kernel
theorem dX8_spit_166 : decode cX8_spit 166 = .ok (.iaload, 1) := by decide +kernel
theorem dX8_spit_167 : decode cX8_spit 167 = .ok (.iastore, 1) := by decide +kernel
theorem dX8_spit_168 : decode cX8_spit 168 = .ok (.iinc 2 1, 3) := by decide +kernel
theorem dX8_spit_171 : decode cX8_spit 171 = .ok (.goto (-34), 3) := by decide +kernel
theorem dX8_spit_174 : decode cX8_spit 174 = .ok (.iconst 0, 1) := by decide +kernel
theorem dX8_spit_175 : decode cX8_spit 175 = .ok (.istore_n 2, 1) := by decide +kernel
theorem dX8_spit_176 : decode cX8_spit 176 = .ok (.iload_n 2, 1) := by decide +kernel
theorem dX8_spit_177 : decode cX8_spit 177 = .ok (.bipush 20, 2) := by decide +kernel
theorem dX8_spit_179 : decode cX8_spit 179 = .ok (.if_icmp .ge 33, 3) := by decide +kernel
theorem dX8_spit_182 : decode cX8_spit 182 = .ok (.aload_n 0, 1) := by decide +kernel
theorem dX8_spit_183 : decode cX8_spit 183 = .ok (.getfield 16, 3) := by decide +kernel
theorem dX8_spit_186 : decode cX8_spit 186 = .ok (.iload_n 2, 1) := by decide +kernel
theorem dX8_spit_187 : decode cX8_spit 187 = .ok (.aload_n 0, 1) := by decide +kernel
theorem dX8_spit_188 : decode cX8_spit 188 = .ok (.getfield 47, 3) := by decide +kernel
theorem dX8_spit_191 : decode cX8_spit 191 = .ok (.iload_n 2, 1) := by decide +kernel
theorem dX8_spit_192 : decode cX8_spit 192 = .ok (.iaload, 1) := by decide +kernel
theorem dX8_spit_193 : decode cX8_spit 193 = .ok (.iastore, 1) := by decide +kernel
theorem dX8_spit_194 : decode cX8_spit 194 = .ok (.aload_n 0, 1) := by decide +kernel
theorem dX8_spit_195 : decode cX8_spit 195 = .ok (.getfield 19, 3) := by decide +kernel
theorem dX8_spit_198 : decode cX8_spit 198 = .ok (.iload_n 2, 1) := by decide +kernel
theorem dX8_spit_199 : decode cX8_spit 199 = .ok (.aload_n 0, 1) := by decide +kernel
theorem dX8_spit_200 : decode cX8_spit 200 = .ok (.getfield 50, 3) := by decide +kernel
theorem dX8_spit_203 : decode cX8_spit 203 = .ok (.iload_n 2, 1) := by decide +kernel
theorem dX8_spit_204 : decode cX8_spit 204 = .ok (.iaload, 1) := by decide +kernel
theorem dX8_spit_205 : decode cX8_spit 205 = .ok (.iastore, 1) := by decide +kernel
theorem dX8_spit_206 : decode cX8_spit 206 = .ok (.iinc 2 1, 3) := by decide +kernel
theorem dX8_spit_209 : decode cX8_spit 209 = .ok (.goto (-33), 3) := by decide +kernel
theorem dX8_spit_212 : decode cX8_spit 212 = .ok (.aload_n 0, 1) := by decide +kernel
theorem dX8_spit_213 : decode cX8_spit 213 = .ok (.iconst 0, 1) := by decide +kernel
theorem dX8_spit_214 : decode cX8_spit 214 = .ok (.putfield 195, 3) := by decide +kernel
theorem dX8_spit_217 : decode cX8_spit 217 = .ok (.aload_n 0, 1) := by decide +kernel
theorem dX8_spit_218 : decode cX8_spit 218 = .ok (.getfield 93, 3) := by decide +kernel
theorem dX8_spit_221 : decode cX8_spit 221 = .ok (.iconst 0, 1) := by decide +kernel
theorem dX8_spit_222 : decode cX8_spit 222 = .ok (.iconst 0, 1) := by decide +kernel
theorem dX8_spit_223 : decode cX8_spit 223 = .ok (.bastore, 1) := by decide +kernel
theorem dX8_spit_224 : decode cX8_spit 224 = .ok (.aload_n 0, 1) := by decide +kernel
theorem dX8_spit_225 : decode cX8_spit 225 = .ok (.getfield 93, 3) := by decide +kernel
theorem dX8_spit_228 : decode cX8_spit 228 = .ok (.iconst 1, 1) := by decide +kernel
theorem dX8_spit_229 : decode cX8_spit 229 = .ok (.iconst 0, 1) := by decide +kernel
theorem dX8_spit_230 : decode cX8_spit 230 = .ok (.bastore, 1) := by decide +kernel
theorem dX8_spit_231 : decode cX8_spit 231 = .ok (.aload_n 0, 1) := by decide +kernel
theorem dX8_spit_232 : decode cX8_spit 232 = .ok (.invokevirtual 198, 3) := by decide +kernel
theorem dX8_spit_235 : decode cX8_spit 235 = .ok (.istore_n 2, 1) := by decide +kernel
theorem dX8_spit_236 : decode cX8_spit 236 = .ok (.aload_n 0, 1) := by decide +kernel
theorem dX8_spit_237 : decode cX8_spit 237 = .ok (.getfield 106, 3) := by decide +kernel
theorem dX8_spit_240 : decode cX8_spit 240 = .ok (.ireturn, 1) := by decide +kernel
theorem dX8_fault_0 : decode cX8_fault 0 = .ok (.aload_n 0, 1) := by decide +kernel
theorem dX8_fault_1 : decode cX8_fault 1 = .ok (.getfield 40, 3) := by decide +kernel
theorem dX8_fault_4 : decode cX8_fault 4 = .ok (.ireturn, 1) := by decide +kernel
theorem dX8_countOf_0 : decode cX8_countOf 0 = .ok (.iconst 0, 1) := by decide +kernel
theorem dX8_countOf_1 : decode cX8_countOf 1 = .ok (.istore_n 2, 1) := by decide +kernel
theorem dX8_countOf_2 : decode cX8_countOf 2 = .ok (.iconst 0, 1) := by decide +kernel
theorem dX8_countOf_3 : decode cX8_countOf 3 = .ok (.istore_n 3, 1) := by decide +kernel
theorem dX8_countOf_4 : decode cX8_countOf 4 = .ok (.iload_n 3, 1) := by decide +kernel
theorem dX8_countOf_5 : decode cX8_countOf 5 = .ok (.aload_n 0, 1) := by decide +kernel
theorem dX8_countOf_6 : decode cX8_countOf 6 = .ok (.getfield 106, 3) := by decide +kernel
theorem dX8_countOf_9 : decode cX8_countOf 9 = .ok (.if_icmp .ge 27, 3) := by decide +kernel
theorem dX8_countOf_12 : decode cX8_countOf 12 = .ok (.iload_n 2, 1) := by decide +kernel
theorem dX8_countOf_13 : decode cX8_countOf 13 = .ok (.aload_n 0, 1) := by decide +kernel
theorem dX8_countOf_14 : decode cX8_countOf 14 = .ok (.getfield 25, 3) := by decide +kernel
theorem dX8_countOf_17 : decode cX8_countOf 17 = .ok (.iload_n 3, 1) := by decide +kernel
theorem dX8_countOf_18 : decode cX8_countOf 18 = .ok (.iaload, 1) := by decide +kernel
theorem dX8_countOf_19 : decode cX8_countOf 19 = .ok (.iload_n 1, 1) := by decide +kernel
theorem dX8_countOf_20 : decode cX8_countOf 20 = .ok (.if_icmp .ne 7, 3) := by decide +kernel
theorem dX8_countOf_23 : decode cX8_countOf 23 = .ok (.iconst 1, 1) := by decide +kernel
theorem dX8_countOf_24 : decode cX8_countOf 24 = .ok (.goto 4, 3) := by decide +kernel
theorem dX8_countOf_27 : decode cX8_countOf 27 = .ok (.iconst 0, 1) := by decide +kernel
theorem dX8_countOf_28 : decode cX8_countOf 28 = .ok (.iadd, 1) := by decide +kernel
theorem dX8_countOf_29 : decode cX8_countOf 29 = .ok (.istore_n 2, 1) := by decide +kernel
theorem dX8_countOf_30 : decode cX8_countOf 30 = .ok (.iinc 3 1, 3) := by decide +kernel
theorem dX8_countOf_33 : decode cX8_countOf 33 = .ok (.goto (-29), 3) := by decide +kernel
theorem dX8_countOf_36 : decode cX8_countOf 36 = .ok (.iload_n 2, 1) := by decide +kernel
theorem dX8_countOf_37 : decode cX8_countOf 37 = .ok (.ireturn, 1) := by decide +kernel
theorem dX8_sortsOf_0 : decode cX8_sortsOf 0 = .ok (.iconst 0, 1) := by decide +kernel
theorem dX8_sortsOf_1 : decode cX8_sortsOf 1 = .ok (.istore_n 2, 1) := by decide +kernel
theorem dX8_sortsOf_2 : decode cX8_sortsOf 2 = .ok (.iconst 0, 1) := by decide +kernel
theorem dX8_sortsOf_3 : decode cX8_sortsOf 3 = .ok (.istore_n 3, 1) := by decide +kernel
theorem dX8_sortsOf_4 : decode cX8_sortsOf 4 = .ok (.iload_n 3, 1) := by decide +kernel
theorem dX8_sortsOf_5 : decode cX8_sortsOf 5 = .ok (.aload_n 0, 1) := by decide +kernel
theorem dX8_sortsOf_6 : decode cX8_sortsOf 6 = .ok (.getfield 106, 3) := by decide +kernel
theorem dX8_sortsOf_9 : decode cX8_sortsOf 9 = .ok (.if_icmp .ge 34, 3) := by decide +kernel
theorem dX8_sortsOf_12 : decode cX8_sortsOf 12 = .ok (.iload_n 2, 1) := by decide +kernel
theorem dX8_sortsOf_13 : decode cX8_sortsOf 13 = .ok (.aload_n 0, 1) := by decide +kernel
theorem dX8_sortsOf_14 : decode cX8_sortsOf 14 = .ok (.getfield 25, 3) := by decide +kernel
theorem dX8_sortsOf_17 : decode cX8_sortsOf 17 = .ok (.iload_n 3, 1) := by decide +kernel
theorem dX8_sortsOf_18 : decode cX8_sortsOf 18 = .ok (.iaload, 1) := by decide +kernel
theorem dX8_sortsOf_19 : decode cX8_sortsOf 19 = .ok (.iload_n 1, 1) := by decide +kernel
theorem dX8_sortsOf_20 : decode cX8_sortsOf 20 = .ok (.if_icmp .ne 14, 3) := by decide +kernel
theorem dX8_sortsOf_23 : decode cX8_sortsOf 23 = .ok (.iconst 1, 1) := by decide +kernel
theorem dX8_sortsOf_24 : decode cX8_sortsOf 24 = .ok (.aload_n 0, 1) := by decide +kernel
theorem dX8_sortsOf_25 : decode cX8_sortsOf 25 = .ok (.getfield 22, 3) := by decide +kernel
theorem dX8_sortsOf_28 : decode cX8_sortsOf 28 = .ok (.iload_n 3, 1) := by decide +kernel
theorem dX8_sortsOf_29 : decode cX8_sortsOf 29 = .ok (.iaload, 1) := by decide +kernel
theorem dX8_sortsOf_30 : decode cX8_sortsOf 30 = .ok (.ishl, 1) := by decide +kernel
theorem dX8_sortsOf_31 : decode cX8_sortsOf 31 = .ok (.goto 4, 3) := by decide +kernel
theorem dX8_sortsOf_34 : decode cX8_sortsOf 34 = .ok (.iconst 0, 1) := by decide +kernel
theorem dX8_sortsOf_35 : decode cX8_sortsOf 35 = .ok (.ior, 1) := by decide +kernel
theorem dX8_sortsOf_36 : decode cX8_sortsOf 36 = .ok (.istore_n 2, 1) := by decide +kernel
theorem dX8_sortsOf_37 : decode cX8_sortsOf 37 = .ok (.iinc 3 1, 3) := by decide +kernel
theorem dX8_sortsOf_40 : decode cX8_sortsOf 40 = .ok (.goto (-36), 3) := by decide +kernel
theorem dX8_sortsOf_43 : decode cX8_sortsOf 43 = .ok (.iload_n 2, 1) := by decide +kernel
theorem dX8_sortsOf_44 : decode cX8_sortsOf 44 = .ok (.ireturn, 1) := by decide +kernel
theorem dX8_worthOf_0 : decode cX8_worthOf 0 = .ok (.iconst 0, 1) := by decide +kernel
theorem dX8_worthOf_1 : decode cX8_worthOf 1 = .ok (.istore_n 3, 1) := by decide +kernel
theorem dX8_worthOf_2 : decode cX8_worthOf 2 = .ok (.iconst 0, 1) := by decide +kernel
theorem dX8_worthOf_3 : decode cX8_worthOf 3 = .ok (.istore 4, 2) := by decide +kernel
theorem dX8_worthOf_5 : decode cX8_worthOf 5 = .ok (.iload 4, 2) := by decide +kernel
theorem dX8_worthOf_7 : decode cX8_worthOf 7 = .ok (.aload_n 0, 1) := by decide +kernel
theorem dX8_worthOf_8 : decode cX8_worthOf 8 = .ok (.getfield 96, 3) := by decide +kernel
theorem dX8_worthOf_11 : decode cX8_worthOf 11 = .ok (.if_icmp .ge 37, 3) := by decide +kernel
theorem dX8_worthOf_14 : decode cX8_worthOf 14 = .ok (.iload_n 3, 1) := by decide +kernel
theorem dX8_worthOf_15 : decode cX8_worthOf 15 = .ok (.iload_n 2, 1) := by decide +kernel
theorem dX8_worthOf_16 : decode cX8_worthOf 16 = .ok (.iload 4, 2) := by decide +kernel
theorem dX8_worthOf_18 : decode cX8_worthOf 18 = .ok (.invokestatic 201, 3) := by decide +kernel
theorem dX8_worthOf_21 : decode cX8_worthOf 21 = .ok (.ifCond .eq 18, 3) := by decide +kernel
theorem dX8_worthOf_24 : decode cX8_worthOf 24 = .ok (.aload_n 0, 1) := by decide +kernel
theorem dX8_worthOf_25 : decode cX8_worthOf 25 = .ok (.getfield 13, 3) := by decide +kernel
theorem dX8_worthOf_28 : decode cX8_worthOf 28 = .ok (.bipush 6, 2) := by decide +kernel
theorem dX8_worthOf_30 : decode cX8_worthOf 30 = .ok (.iload_n 1, 1) := by decide +kernel
theorem dX8_worthOf_31 : decode cX8_worthOf 31 = .ok (.imul, 1) := by decide +kernel
theorem dX8_worthOf_32 : decode cX8_worthOf 32 = .ok (.iload 4, 2) := by decide +kernel
theorem dX8_worthOf_34 : decode cX8_worthOf 34 = .ok (.iadd, 1) := by decide +kernel
theorem dX8_worthOf_35 : decode cX8_worthOf 35 = .ok (.iaload, 1) := by decide +kernel
theorem dX8_worthOf_36 : decode cX8_worthOf 36 = .ok (.goto 4, 3) := by decide +kernel
theorem dX8_worthOf_39 : decode cX8_worthOf 39 = .ok (.iconst 0, 1) := by decide +kernel
theorem dX8_worthOf_40 : decode cX8_worthOf 40 = .ok (.iadd, 1) := by decide +kernel
theorem dX8_worthOf_41 : decode cX8_worthOf 41 = .ok (.istore_n 3, 1) := by decide +kernel
theorem dX8_worthOf_42 : decode cX8_worthOf 42 = .ok (.iinc 4 1, 3) := by decide +kernel
theorem dX8_worthOf_45 : decode cX8_worthOf 45 = .ok (.goto (-40), 3) := by decide +kernel
theorem dX8_worthOf_48 : decode cX8_worthOf 48 = .ok (.iload_n 3, 1) := by decide +kernel
theorem dX8_worthOf_49 : decode cX8_worthOf 49 = .ok (.ireturn, 1) := by decide +kernel
theorem dX8_wealthOf_0 : decode cX8_wealthOf 0 = .ok (.aload_n 0, 1) := by decide +kernel
theorem dX8_wealthOf_1 : decode cX8_wealthOf 1 = .ok (.iload_n 1, 1) := by decide +kernel
theorem dX8_wealthOf_2 : decode cX8_wealthOf 2 = .ok (.aload_n 0, 1) := by decide +kernel
theorem dX8_wealthOf_3 : decode cX8_wealthOf 3 = .ok (.iload_n 1, 1) := by decide +kernel
theorem dX8_wealthOf_4 : decode cX8_wealthOf 4 = .ok (.invokevirtual 205, 3) := by decide +kernel
theorem dX8_wealthOf_7 : decode cX8_wealthOf 7 = .ok (.invokevirtual 209, 3) := by decide +kernel
theorem dX8_wealthOf_10 : decode cX8_wealthOf 10 = .ok (.ireturn, 1) := by decide +kernel
theorem dX8_inYard_0 : decode cX8_inYard 0 = .ok (.iconst 0, 1) := by decide +kernel
theorem dX8_inYard_1 : decode cX8_inYard 1 = .ok (.istore_n 2, 1) := by decide +kernel
theorem dX8_inYard_2 : decode cX8_inYard 2 = .ok (.iconst 0, 1) := by decide +kernel
theorem dX8_inYard_3 : decode cX8_inYard 3 = .ok (.istore_n 3, 1) := by decide +kernel
theorem dX8_inYard_4 : decode cX8_inYard 4 = .ok (.iload_n 3, 1) := by decide +kernel
theorem dX8_inYard_5 : decode cX8_inYard 5 = .ok (.aload_n 0, 1) := by decide +kernel
theorem dX8_inYard_6 : decode cX8_inYard 6 = .ok (.getfield 106, 3) := by decide +kernel
theorem dX8_inYard_9 : decode cX8_inYard 9 = .ok (.if_icmp .ge 36, 3) := by decide +kernel
theorem dX8_inYard_12 : decode cX8_inYard 12 = .ok (.iload_n 2, 1) := by decide +kernel
theorem dX8_inYard_13 : decode cX8_inYard 13 = .ok (.aload_n 0, 1) := by decide +kernel
theorem dX8_inYard_14 : decode cX8_inYard 14 = .ok (.getfield 25, 3) := by decide +kernel
theorem dX8_inYard_17 : decode cX8_inYard 17 = .ok (.iload_n 3, 1) := by decide +kernel
theorem dX8_inYard_18 : decode cX8_inYard 18 = .ok (.iaload, 1) := by decide +kernel
theorem dX8_inYard_19 : decode cX8_inYard 19 = .ok (.ifCond .ge 17, 3) := by decide +kernel
theorem dX8_inYard_22 : decode cX8_inYard 22 = .ok (.aload_n 0, 1) := by decide +kernel
theorem dX8_inYard_23 : decode cX8_inYard 23 = .ok (.getfield 28, 3) := by decide +kernel
theorem dX8_inYard_26 : decode cX8_inYard 26 = .ok (.iload_n 3, 1) := by decide +kernel
theorem dX8_inYard_27 : decode cX8_inYard 27 = .ok (.iaload, 1) := by decide +kernel
theorem dX8_inYard_28 : decode cX8_inYard 28 = .ok (.iload_n 1, 1) := by decide +kernel
theorem dX8_inYard_29 : decode cX8_inYard 29 = .ok (.if_icmp .ne 7, 3) := by decide +kernel
theorem dX8_inYard_32 : decode cX8_inYard 32 = .ok (.iconst 1, 1) := by decide +kernel
theorem dX8_inYard_33 : decode cX8_inYard 33 = .ok (.goto 4, 3) := by decide +kernel
theorem dX8_inYard_36 : decode cX8_inYard 36 = .ok (.iconst 0, 1) := by decide +kernel
theorem dX8_inYard_37 : decode cX8_inYard 37 = .ok (.iadd, 1) := by decide +kernel
theorem dX8_inYard_38 : decode cX8_inYard 38 = .ok (.istore_n 2, 1) := by decide +kernel
theorem dX8_inYard_39 : decode cX8_inYard 39 = .ok (.iinc 3 1, 3) := by decide +kernel
theorem dX8_inYard_42 : decode cX8_inYard 42 = .ok (.goto (-38), 3) := by decide +kernel
theorem dX8_inYard_45 : decode cX8_inYard 45 = .ok (.iload_n 2, 1) := by decide +kernel
theorem dX8_inYard_46 : decode cX8_inYard 46 = .ok (.ireturn, 1) := by decide +kernel
theorem dX8_poor_0 : decode cX8_poor 0 = .ok (.iconst 0, 1) := by decide +kernel
theorem dX8_poor_1 : decode cX8_poor 1 = .ok (.istore_n 1, 1) := by decide +kernel
theorem dX8_poor_2 : decode cX8_poor 2 = .ok (.iconst 0, 1) := by decide +kernel
theorem dX8_poor_3 : decode cX8_poor 3 = .ok (.istore_n 2, 1) := by decide +kernel
theorem dX8_poor_4 : decode cX8_poor 4 = .ok (.iload_n 2, 1) := by decide +kernel
theorem dX8_poor_5 : decode cX8_poor 5 = .ok (.aload_n 0, 1) := by decide +kernel
theorem dX8_poor_6 : decode cX8_poor 6 = .ok (.getfield 99, 3) := by decide +kernel
theorem dX8_poor_9 : decode cX8_poor 9 = .ok (.if_icmp .ge 27, 3) := by decide +kernel
theorem dX8_poor_12 : decode cX8_poor 12 = .ok (.iload_n 1, 1) := by decide +kernel
theorem dX8_poor_13 : decode cX8_poor 13 = .ok (.aload_n 0, 1) := by decide +kernel
theorem dX8_poor_14 : decode cX8_poor 14 = .ok (.iload_n 2, 1) := by decide +kernel
theorem dX8_poor_15 : decode cX8_poor 15 = .ok (.invokevirtual 212, 3) := by decide +kernel
theorem dX8_poor_18 : decode cX8_poor 18 = .ok (.ifCond .ne 9, 3) := by decide +kernel
theorem dX8_poor_21 : decode cX8_poor 21 = .ok (.iconst 1, 1) := by decide +kernel
theorem dX8_poor_22 : decode cX8_poor 22 = .ok (.iload_n 2, 1) := by decide +kernel
theorem dX8_poor_23 : decode cX8_poor 23 = .ok (.ishl, 1) := by decide +kernel
theorem dX8_poor_24 : decode cX8_poor 24 = .ok (.goto 4, 3) := by decide +kernel
theorem dX8_poor_27 : decode cX8_poor 27 = .ok (.iconst 0, 1) := by decide +kernel
theorem dX8_poor_28 : decode cX8_poor 28 = .ok (.ior, 1) := by decide +kernel
theorem dX8_poor_29 : decode cX8_poor 29 = .ok (.istore_n 1, 1) := by decide +kernel
theorem dX8_poor_30 : decode cX8_poor 30 = .ok (.iinc 2 1, 3) := by decide +kernel
theorem dX8_poor_33 : decode cX8_poor 33 = .ok (.goto (-29), 3) := by decide +kernel
theorem dX8_poor_36 : decode cX8_poor 36 = .ok (.iload_n 1, 1) := by decide +kernel
theorem dX8_poor_37 : decode cX8_poor 37 = .ok (.ireturn, 1) := by decide +kernel
theorem dX8_told_0 : decode cX8_told 0 = .ok (.iload_n 1, 1) := by decide +kernel
theorem dX8_told_1 : decode cX8_told 1 = .ok (.tableswitch 88 0 7 #[47, 52, 57, 62, 67, 72, 77, 82], 47) := by decide +kernel
theorem dX8_told_48 : decode cX8_told 48 = .ok (.aload_n 0, 1) := by decide +kernel
theorem dX8_told_49 : decode cX8_told 49 = .ok (.getfield 96, 3) := by decide +kernel
theorem dX8_told_52 : decode cX8_told 52 = .ok (.ireturn, 1) := by decide +kernel
theorem dX8_told_53 : decode cX8_told 53 = .ok (.aload_n 0, 1) := by decide +kernel
theorem dX8_told_54 : decode cX8_told 54 = .ok (.getfield 99, 3) := by decide +kernel
theorem dX8_told_57 : decode cX8_told 57 = .ok (.ireturn, 1) := by decide +kernel
theorem dX8_told_58 : decode cX8_told 58 = .ok (.aload_n 0, 1) := by decide +kernel
theorem dX8_told_59 : decode cX8_told 59 = .ok (.getfield 106, 3) := by decide +kernel
theorem dX8_told_62 : decode cX8_told 62 = .ok (.ireturn, 1) := by decide +kernel
theorem dX8_told_63 : decode cX8_told 63 = .ok (.aload_n 0, 1) := by decide +kernel
theorem dX8_told_64 : decode cX8_told 64 = .ok (.getfield 118, 3) := by decide +kernel
theorem dX8_told_67 : decode cX8_told 67 = .ok (.ireturn, 1) := by decide +kernel
theorem dX8_told_68 : decode cX8_told 68 = .ok (.aload_n 0, 1) := by decide +kernel
theorem dX8_told_69 : decode cX8_told 69 = .ok (.getfield 109, 3) := by decide +kernel
theorem dX8_told_72 : decode cX8_told 72 = .ok (.ireturn, 1) := by decide +kernel
theorem dX8_told_73 : decode cX8_told 73 = .ok (.aload_n 0, 1) := by decide +kernel
theorem dX8_told_74 : decode cX8_told 74 = .ok (.getfield 195, 3) := by decide +kernel
theorem dX8_told_77 : decode cX8_told 77 = .ok (.ireturn, 1) := by decide +kernel
theorem dX8_told_78 : decode cX8_told 78 = .ok (.aload_n 0, 1) := by decide +kernel
theorem dX8_told_79 : decode cX8_told 79 = .ok (.invokevirtual 215, 3) := by decide +kernel
theorem dX8_told_82 : decode cX8_told 82 = .ok (.ireturn, 1) := by decide +kernel
theorem dX8_told_83 : decode cX8_told 83 = .ok (.aload_n 0, 1) := by decide +kernel
theorem dX8_told_84 : decode cX8_told 84 = .ok (.iconst (-1), 1) := by decide +kernel
theorem dX8_told_85 : decode cX8_told 85 = .ok (.invokevirtual 212, 3) := by decide +kernel
theorem dX8_told_88 : decode cX8_told 88 = .ok (.ireturn, 1) := by decide +kernel
theorem dX8_told_89 : decode cX8_told 89 = .ok (.ldc 117, 2) := by decide +kernel
theorem dX8_told_91 : decode cX8_told 91 = .ok (.ireturn, 1) := by decide +kernel
theorem dX8_house_0 : decode cX8_house 0 = .ok (.aload_n 0, 1) := by decide +kernel
theorem dX8_house_1 : decode cX8_house 1 = .ok (.iload_n 1, 1) := by decide +kernel
theorem dX8_house_2 : decode cX8_house 2 = .ok (.invokevirtual 218, 3) := by decide +kernel
theorem dX8_house_5 : decode cX8_house 5 = .ok (.ifCond .ne 6, 3) := by decide +kernel
theorem dX8_house_8 : decode cX8_house 8 = .ok (.ldc 222, 2) := by decide +kernel
theorem dX8_house_10 : decode cX8_house 10 = .ok (.ireturn, 1) := by decide +kernel
theorem dX8_house_11 : decode cX8_house 11 = .ok (.iload_n 2, 1) := by decide +kernel
theorem dX8_house_12 : decode cX8_house 12 = .ok (.tableswitch 67 0 4 #[36, 43, 49, 55, 61], 36) := by decide +kernel
theorem dX8_house_48 : decode cX8_house 48 = .ok (.aload_n 0, 1) := by decide +kernel
theorem dX8_house_49 : decode cX8_house 49 = .ok (.getfield 7, 3) := by decide +kernel
theorem dX8_house_52 : decode cX8_house 52 = .ok (.iload_n 1, 1) := by decide +kernel
theorem dX8_house_53 : decode cX8_house 53 = .ok (.iaload, 1) := by decide +kernel
theorem dX8_house_54 : decode cX8_house 54 = .ok (.ireturn, 1) := by decide +kernel
theorem dX8_house_55 : decode cX8_house 55 = .ok (.aload_n 0, 1) := by decide +kernel
theorem dX8_house_56 : decode cX8_house 56 = .ok (.iload_n 1, 1) := by decide +kernel
theorem dX8_house_57 : decode cX8_house 57 = .ok (.invokevirtual 212, 3) := by decide +kernel
theorem dX8_house_60 : decode cX8_house 60 = .ok (.ireturn, 1) := by decide +kernel
theorem dX8_house_61 : decode cX8_house 61 = .ok (.aload_n 0, 1) := by decide +kernel
theorem dX8_house_62 : decode cX8_house 62 = .ok (.iload_n 1, 1) := by decide +kernel
theorem dX8_house_63 : decode cX8_house 63 = .ok (.invokevirtual 223, 3) := by decide +kernel
theorem dX8_house_66 : decode cX8_house 66 = .ok (.ireturn, 1) := by decide +kernel
theorem dX8_house_67 : decode cX8_house 67 = .ok (.aload_n 0, 1) := by decide +kernel
theorem dX8_house_68 : decode cX8_house 68 = .ok (.iload_n 1, 1) := by decide +kernel
theorem dX8_house_69 : decode cX8_house 69 = .ok (.invokevirtual 205, 3) := by decide +kernel
theorem dX8_house_72 : decode cX8_house 72 = .ok (.ireturn, 1) := by decide +kernel
theorem dX8_house_73 : decode cX8_house 73 = .ok (.aload_n 0, 1) := by decide +kernel
theorem dX8_house_74 : decode cX8_house 74 = .ok (.iload_n 1, 1) := by decide +kernel
theorem dX8_house_75 : decode cX8_house 75 = .ok (.invokevirtual 226, 3) := by decide +kernel
theorem dX8_house_78 : decode cX8_house 78 = .ok (.ireturn, 1) := by decide +kernel
theorem dX8_house_79 : decode cX8_house 79 = .ok (.ldc 117, 2) := by decide +kernel
theorem dX8_house_81 : decode cX8_house 81 = .ok (.ireturn, 1) := by decide +kernel
theorem dX8_worth_0 : decode cX8_worth 0 = .ok (.aload_n 0, 1) := by decide +kernel
theorem dX8_worth_1 : decode cX8_worth 1 = .ok (.iload_n 1, 1) := by decide +kernel
theorem dX8_worth_2 : decode cX8_worth 2 = .ok (.invokevirtual 218, 3) := by decide +kernel
theorem dX8_worth_5 : decode cX8_worth 5 = .ok (.ifCond .eq 25, 3) := by decide +kernel
theorem dX8_worth_8 : decode cX8_worth 8 = .ok (.aload_n 0, 1) := by decide +kernel
theorem dX8_worth_9 : decode cX8_worth 9 = .ok (.iload_n 2, 1) := by decide +kernel
theorem dX8_worth_10 : decode cX8_worth 10 = .ok (.invokevirtual 229, 3) := by decide +kernel
theorem dX8_worth_13 : decode cX8_worth 13 = .ok (.ifCond .eq 17, 3) := by decide +kernel
theorem dX8_worth_16 : decode cX8_worth 16 = .ok (.aload_n 0, 1) := by decide +kernel
theorem dX8_worth_17 : decode cX8_worth 17 = .ok (.getfield 13, 3) := by decide +kernel
theorem dX8_worth_20 : decode cX8_worth 20 = .ok (.bipush 6, 2) := by decide +kernel
theorem dX8_worth_22 : decode cX8_worth 22 = .ok (.iload_n 1, 1) := by decide +kernel
theorem dX8_worth_23 : decode cX8_worth 23 = .ok (.imul, 1) := by decide +kernel
theorem dX8_worth_24 : decode cX8_worth 24 = .ok (.iload_n 2, 1) := by decide +kernel
theorem dX8_worth_25 : decode cX8_worth 25 = .ok (.iadd, 1) := by decide +kernel
theorem dX8_worth_26 : decode cX8_worth 26 = .ok (.iaload, 1) := by decide +kernel
theorem dX8_worth_27 : decode cX8_worth 27 = .ok (.goto 5, 3) := by decide +kernel
theorem dX8_worth_30 : decode cX8_worth 30 = .ok (.ldc 222, 2) := by decide +kernel
theorem dX8_worth_32 : decode cX8_worth 32 = .ok (.ireturn, 1) := by decide +kernel
theorem dX8_part_0 : decode cX8_part 0 = .ok (.aload_n 0, 1) := by decide +kernel
theorem dX8_part_1 : decode cX8_part 1 = .ok (.iload_n 1, 1) := by decide +kernel
theorem dX8_part_2 : decode cX8_part 2 = .ok (.invokevirtual 232, 3) := by decide +kernel
theorem dX8_part_5 : decode cX8_part 5 = .ok (.ifCond .ne 6, 3) := by decide +kernel
theorem dX8_part_8 : decode cX8_part 8 = .ok (.ldc 222, 2) := by decide +kernel
theorem dX8_part_10 : decode cX8_part 10 = .ok (.ireturn, 1) := by decide +kernel
theorem dX8_part_11 : decode cX8_part 11 = .ok (.iload_n 2, 1) := by decide +kernel
theorem dX8_part_12 : decode cX8_part 12 = .ok (.ifCond .ne 12, 3) := by decide +kernel
theorem dX8_part_15 : decode cX8_part 15 = .ok (.aload_n 0, 1) := by decide +kernel
theorem dX8_part_16 : decode cX8_part 16 = .ok (.getfield 22, 3) := by decide +kernel
theorem dX8_part_19 : decode cX8_part 19 = .ok (.iload_n 1, 1) := by decide +kernel
theorem dX8_part_20 : decode cX8_part 20 = .ok (.iaload, 1) := by decide +kernel
theorem dX8_part_21 : decode cX8_part 21 = .ok (.goto 60, 3) := by decide +kernel
theorem dX8_part_24 : decode cX8_part 24 = .ok (.iload_n 2, 1) := by decide +kernel
theorem dX8_part_25 : decode cX8_part 25 = .ok (.iconst 1, 1) := by decide +kernel
theorem dX8_part_26 : decode cX8_part 26 = .ok (.if_icmp .ne 12, 3) := by decide +kernel
theorem dX8_part_29 : decode cX8_part 29 = .ok (.aload_n 0, 1) := by decide +kernel
theorem dX8_part_30 : decode cX8_part 30 = .ok (.getfield 25, 3) := by decide +kernel
theorem dX8_part_33 : decode cX8_part 33 = .ok (.iload_n 1, 1) := by decide +kernel
theorem dX8_part_34 : decode cX8_part 34 = .ok (.iaload, 1) := by decide +kernel
theorem dX8_part_35 : decode cX8_part 35 = .ok (.goto 46, 3) := by decide +kernel
theorem dX8_part_38 : decode cX8_part 38 = .ok (.iload_n 2, 1) := by decide +kernel
theorem dX8_part_39 : decode cX8_part 39 = .ok (.iconst 2, 1) := by decide +kernel
theorem dX8_part_40 : decode cX8_part 40 = .ok (.if_icmp .ne 25, 3) := by decide +kernel
theorem dX8_part_43 : decode cX8_part 43 = .ok (.aload_n 0, 1) := by decide +kernel
theorem dX8_part_44 : decode cX8_part 44 = .ok (.getfield 25, 3) := by decide +kernel
theorem dX8_part_47 : decode cX8_part 47 = .ok (.iload_n 1, 1) := by decide +kernel
theorem dX8_part_48 : decode cX8_part 48 = .ok (.iaload, 1) := by decide +kernel
theorem dX8_part_49 : decode cX8_part 49 = .ok (.ifCond .ge 12, 3) := by decide +kernel
theorem dX8_part_52 : decode cX8_part 52 = .ok (.aload_n 0, 1) := by decide +kernel
theorem dX8_part_53 : decode cX8_part 53 = .ok (.getfield 28, 3) := by decide +kernel
theorem dX8_part_56 : decode cX8_part 56 = .ok (.iload_n 1, 1) := by decide +kernel
theorem dX8_part_57 : decode cX8_part 57 = .ok (.iaload, 1) := by decide +kernel
theorem dX8_part_58 : decode cX8_part 58 = .ok (.goto 23, 3) := by decide +kernel
theorem dX8_part_61 : decode cX8_part 61 = .ok (.iconst (-1), 1) := by decide +kernel
theorem dX8_part_62 : decode cX8_part 62 = .ok (.goto 19, 3) := by decide +kernel
theorem dX8_part_65 : decode cX8_part 65 = .ok (.iload_n 2, 1) := by decide +kernel
theorem dX8_part_66 : decode cX8_part 66 = .ok (.iconst 3, 1) := by decide +kernel
theorem dX8_part_67 : decode cX8_part 67 = .ok (.if_icmp .ne 12, 3) := by decide +kernel
theorem dX8_part_70 : decode cX8_part 70 = .ok (.aload_n 0, 1) := by decide +kernel
theorem dX8_part_71 : decode cX8_part 71 = .ok (.getfield 31, 3) := by decide +kernel
theorem dX8_part_74 : decode cX8_part 74 = .ok (.iload_n 1, 1) := by decide +kernel
theorem dX8_part_75 : decode cX8_part 75 = .ok (.iaload, 1) := by decide +kernel
theorem dX8_part_76 : decode cX8_part 76 = .ok (.goto 5, 3) := by decide +kernel
theorem dX8_part_79 : decode cX8_part 79 = .ok (.ldc 117, 2) := by decide +kernel
theorem dX8_part_81 : decode cX8_part 81 = .ok (.ireturn, 1) := by decide +kernel
theorem dX8_hand_0 : decode cX8_hand 0 = .ok (.aload_n 0, 1) := by decide +kernel
theorem dX8_hand_1 : decode cX8_hand 1 = .ok (.iload_n 1, 1) := by decide +kernel
theorem dX8_hand_2 : decode cX8_hand 2 = .ok (.invokevirtual 232, 3) := by decide +kernel
theorem dX8_hand_5 : decode cX8_hand 5 = .ok (.ifCond .ne 6, 3) := by decide +kernel
theorem dX8_hand_8 : decode cX8_hand 8 = .ok (.ldc 222, 2) := by decide +kernel
theorem dX8_hand_10 : decode cX8_hand 10 = .ok (.ireturn, 1) := by decide +kernel
theorem dX8_hand_11 : decode cX8_hand 11 = .ok (.iload_n 2, 1) := by decide +kernel
theorem dX8_hand_12 : decode cX8_hand 12 = .ok (.i2l, 1) := by decide +kernel
theorem dX8_hand_13 : decode cX8_hand 13 = .ok (.lconst 0, 1) := by decide +kernel
theorem dX8_hand_14 : decode cX8_hand 14 = .ok (.aload_n 0, 1) := by decide +kernel
theorem dX8_hand_15 : decode cX8_hand 15 = .ok (.getfield 31, 3) := by decide +kernel
theorem dX8_hand_18 : decode cX8_hand 18 = .ok (.iload_n 1, 1) := by decide +kernel
theorem dX8_hand_19 : decode cX8_hand 19 = .ok (.iaload, 1) := by decide +kernel
theorem dX8_hand_20 : decode cX8_hand 20 = .ok (.iconst 1, 1) := by decide +kernel
theorem dX8_hand_21 : decode cX8_hand 21 = .ok (.isub, 1) := by decide +kernel
theorem dX8_hand_22 : decode cX8_hand 22 = .ok (.i2l, 1) := by decide +kernel
theorem dX8_hand_23 : decode cX8_hand 23 = .ok (.invokestatic 102, 3) := by decide +kernel
theorem dX8_hand_26 : decode cX8_hand 26 = .ok (.ifCond .eq 17, 3) := by decide +kernel
theorem dX8_hand_29 : decode cX8_hand 29 = .ok (.aload_n 0, 1) := by decide +kernel
theorem dX8_hand_30 : decode cX8_hand 30 = .ok (.getfield 34, 3) := by decide +kernel
theorem dX8_hand_33 : decode cX8_hand 33 = .ok (.bipush 20, 2) := by decide +kernel
theorem dX8_hand_35 : decode cX8_hand 35 = .ok (.iload_n 1, 1) := by decide +kernel
theorem dX8_hand_36 : decode cX8_hand 36 = .ok (.imul, 1) := by decide +kernel
theorem dX8_hand_37 : decode cX8_hand 37 = .ok (.iload_n 2, 1) := by decide +kernel
theorem dX8_hand_38 : decode cX8_hand 38 = .ok (.iadd, 1) := by decide +kernel
theorem dX8_hand_39 : decode cX8_hand 39 = .ok (.iaload, 1) := by decide +kernel
theorem dX8_hand_40 : decode cX8_hand 40 = .ok (.goto 4, 3) := by decide +kernel
theorem dX8_hand_43 : decode cX8_hand 43 = .ok (.iconst (-1), 1) := by decide +kernel
theorem dX8_hand_44 : decode cX8_hand 44 = .ok (.ireturn, 1) := by decide +kernel
theorem dX8_tossNow_0 : decode cX8_tossNow 0 = .ok (.aload_n 0, 1) := by decide +kernel
theorem dX8_tossNow_1 : decode cX8_tossNow 1 = .ok (.getfield 25, 3) := by decide +kernel
theorem dX8_tossNow_4 : decode cX8_tossNow 4 = .ok (.iload_n 2, 1) := by decide +kernel
theorem dX8_tossNow_5 : decode cX8_tossNow 5 = .ok (.iconst (-1), 1) := by decide +kernel
theorem dX8_tossNow_6 : decode cX8_tossNow 6 = .ok (.iastore, 1) := by decide +kernel
theorem dX8_tossNow_7 : decode cX8_tossNow 7 = .ok (.aload_n 0, 1) := by decide +kernel
theorem dX8_tossNow_8 : decode cX8_tossNow 8 = .ok (.getfield 28, 3) := by decide +kernel
theorem dX8_tossNow_11 : decode cX8_tossNow 11 = .ok (.iload_n 2, 1) := by decide +kernel
theorem dX8_tossNow_12 : decode cX8_tossNow 12 = .ok (.iload_n 1, 1) := by decide +kernel
theorem dX8_tossNow_13 : decode cX8_tossNow 13 = .ok (.iastore, 1) := by decide +kernel
theorem dX8_tossNow_14 : decode cX8_tossNow 14 = .ok (.return_, 1) := by decide +kernel
theorem dX8_takeNow_0 : decode cX8_takeNow 0 = .ok (.aload_n 0, 1) := by decide +kernel
theorem dX8_takeNow_1 : decode cX8_takeNow 1 = .ok (.getfield 25, 3) := by decide +kernel
theorem dX8_takeNow_4 : decode cX8_takeNow 4 = .ok (.iload_n 2, 1) := by decide +kernel
theorem dX8_takeNow_5 : decode cX8_takeNow 5 = .ok (.iload_n 1, 1) := by decide +kernel
theorem dX8_takeNow_6 : decode cX8_takeNow 6 = .ok (.iastore, 1) := by decide +kernel
theorem dX8_takeNow_7 : decode cX8_takeNow 7 = .ok (.aload_n 0, 1) := by decide +kernel
theorem dX8_takeNow_8 : decode cX8_takeNow 8 = .ok (.getfield 28, 3) := by decide +kernel
theorem dX8_takeNow_11 : decode cX8_takeNow 11 = .ok (.iload_n 2, 1) := by decide +kernel
theorem dX8_takeNow_12 : decode cX8_takeNow 12 = .ok (.iconst (-1), 1) := by decide +kernel
theorem dX8_takeNow_13 : decode cX8_takeNow 13 = .ok (.iastore, 1) := by decide +kernel
theorem dX8_takeNow_14 : decode cX8_takeNow 14 = .ok (.aload_n 0, 1) := by decide +kernel
theorem dX8_takeNow_15 : decode cX8_takeNow 15 = .ok (.getfield 31, 3) := by decide +kernel
theorem dX8_takeNow_18 : decode cX8_takeNow 18 = .ok (.iload_n 2, 1) := by decide +kernel
theorem dX8_takeNow_19 : decode cX8_takeNow 19 = .ok (.iaload, 1) := by decide +kernel
theorem dX8_takeNow_20 : decode cX8_takeNow 20 = .ok (.bipush 20, 2) := by decide +kernel
theorem dX8_takeNow_22 : decode cX8_takeNow 22 = .ok (.if_icmp .ge 30, 3) := by decide +kernel
theorem dX8_takeNow_25 : decode cX8_takeNow 25 = .ok (.aload_n 0, 1) := by decide +kernel
theorem dX8_takeNow_26 : decode cX8_takeNow 26 = .ok (.getfield 34, 3) := by decide +kernel
theorem dX8_takeNow_29 : decode cX8_takeNow 29 = .ok (.bipush 20, 2) := by decide +kernel
theorem dX8_takeNow_31 : decode cX8_takeNow 31 = .ok (.iload_n 2, 1) := by decide +kernel
theorem dX8_takeNow_32 : decode cX8_takeNow 32 = .ok (.imul, 1) := by decide +kernel
theorem dX8_takeNow_33 : decode cX8_takeNow 33 = .ok (.aload_n 0, 1) := by decide +kernel
theorem dX8_takeNow_34 : decode cX8_takeNow 34 = .ok (.getfield 31, 3) := by decide +kernel
theorem dX8_takeNow_37 : decode cX8_takeNow 37 = .ok (.iload_n 2, 1) := by decide +kernel
theorem dX8_takeNow_38 : decode cX8_takeNow 38 = .ok (.iaload, 1) := by decide +kernel
theorem dX8_takeNow_39 : decode cX8_takeNow 39 = .ok (.iadd, 1) := by decide +kernel
theorem dX8_takeNow_40 : decode cX8_takeNow 40 = .ok (.iload_n 1, 1) := by decide +kernel
theorem dX8_takeNow_41 : decode cX8_takeNow 41 = .ok (.iastore, 1) := by decide +kernel
theorem dX8_takeNow_42 : decode cX8_takeNow 42 = .ok (.aload_n 0, 1) := by decide +kernel
theorem dX8_takeNow_43 : decode cX8_takeNow 43 = .ok (.getfield 31, 3) := by decide +kernel
theorem dX8_takeNow_46 : decode cX8_takeNow 46 = .ok (.iload_n 2, 1) := by decide +kernel
theorem dX8_takeNow_47 : decode cX8_takeNow 47 = .ok (.dup2, 1) := by decide +kernel
theorem dX8_takeNow_48 : decode cX8_takeNow 48 = .ok (.iaload, 1) := by decide +kernel
theorem dX8_takeNow_49 : decode cX8_takeNow 49 = .ok (.iconst 1, 1) := by decide +kernel
theorem dX8_takeNow_50 : decode cX8_takeNow 50 = .ok (.iadd, 1) := by decide +kernel
theorem dX8_takeNow_51 : decode cX8_takeNow 51 = .ok (.iastore, 1) := by decide +kernel
theorem dX8_takeNow_52 : decode cX8_takeNow 52 = .ok (.return_, 1) := by decide +kernel
theorem dX8_mayTake_0 : decode cX8_mayTake 0 = .ok (.aload_n 0, 1) := by decide +kernel
theorem dX8_mayTake_1 : decode cX8_mayTake 1 = .ok (.getfield 25, 3) := by decide +kernel
theorem dX8_mayTake_4 : decode cX8_mayTake 4 = .ok (.iload_n 2, 1) := by decide +kernel
theorem dX8_mayTake_5 : decode cX8_mayTake 5 = .ok (.iaload, 1) := by decide +kernel
theorem dX8_mayTake_6 : decode cX8_mayTake 6 = .ok (.ifCond .ge 26, 3) := by decide +kernel
theorem dX8_mayTake_9 : decode cX8_mayTake 9 = .ok (.aload_n 0, 1) := by decide +kernel
theorem dX8_mayTake_10 : decode cX8_mayTake 10 = .ok (.getfield 28, 3) := by decide +kernel
theorem dX8_mayTake_13 : decode cX8_mayTake 13 = .ok (.iload_n 2, 1) := by decide +kernel
theorem dX8_mayTake_14 : decode cX8_mayTake 14 = .ok (.iaload, 1) := by decide +kernel
theorem dX8_mayTake_15 : decode cX8_mayTake 15 = .ok (.iload_n 1, 1) := by decide +kernel
theorem dX8_mayTake_16 : decode cX8_mayTake 16 = .ok (.if_icmp .eq 16, 3) := by decide +kernel
theorem dX8_mayTake_19 : decode cX8_mayTake 19 = .ok (.aload_n 0, 1) := by decide +kernel
theorem dX8_mayTake_20 : decode cX8_mayTake 20 = .ok (.iload_n 1, 1) := by decide +kernel
theorem dX8_mayTake_21 : decode cX8_mayTake 21 = .ok (.invokevirtual 212, 3) := by decide +kernel
theorem dX8_mayTake_24 : decode cX8_mayTake 24 = .ok (.iconst 4, 1) := by decide +kernel
theorem dX8_mayTake_25 : decode cX8_mayTake 25 = .ok (.if_icmp .ge 7, 3) := by decide +kernel
theorem dX8_mayTake_28 : decode cX8_mayTake 28 = .ok (.iconst 1, 1) := by decide +kernel
theorem dX8_mayTake_29 : decode cX8_mayTake 29 = .ok (.goto 4, 3) := by decide +kernel
theorem dX8_mayTake_32 : decode cX8_mayTake 32 = .ok (.iconst 0, 1) := by decide +kernel
theorem dX8_mayTake_33 : decode cX8_mayTake 33 = .ok (.ireturn, 1) := by decide +kernel
theorem dX8_toss_0 : decode cX8_toss 0 = .ok (.aload_n 0, 1) := by decide +kernel
theorem dX8_toss_1 : decode cX8_toss 1 = .ok (.iload_n 1, 1) := by decide +kernel
theorem dX8_toss_2 : decode cX8_toss 2 = .ok (.invokevirtual 218, 3) := by decide +kernel
theorem dX8_toss_5 : decode cX8_toss 5 = .ok (.ifCond .eq 11, 3) := by decide +kernel
theorem dX8_toss_8 : decode cX8_toss 8 = .ok (.aload_n 0, 1) := by decide +kernel
theorem dX8_toss_9 : decode cX8_toss 9 = .ok (.iload_n 2, 1) := by decide +kernel
theorem dX8_toss_10 : decode cX8_toss 10 = .ok (.invokevirtual 232, 3) := by decide +kernel
theorem dX8_toss_13 : decode cX8_toss 13 = .ok (.ifCond .ne 6, 3) := by decide +kernel
theorem dX8_toss_16 : decode cX8_toss 16 = .ok (.ldc 222, 2) := by decide +kernel
theorem dX8_toss_18 : decode cX8_toss 18 = .ok (.ireturn, 1) := by decide +kernel
theorem dX8_toss_19 : decode cX8_toss 19 = .ok (.aload_n 0, 1) := by decide +kernel
theorem dX8_toss_20 : decode cX8_toss 20 = .ok (.getfield 25, 3) := by decide +kernel
theorem dX8_toss_23 : decode cX8_toss 23 = .ok (.iload_n 2, 1) := by decide +kernel
theorem dX8_toss_24 : decode cX8_toss 24 = .ok (.iaload, 1) := by decide +kernel
theorem dX8_toss_25 : decode cX8_toss 25 = .ok (.iload_n 1, 1) := by decide +kernel
theorem dX8_toss_26 : decode cX8_toss 26 = .ok (.if_icmp .eq 6, 3) := by decide +kernel
theorem dX8_toss_29 : decode cX8_toss 29 = .ok (.ldc 235, 2) := by decide +kernel
theorem dX8_toss_31 : decode cX8_toss 31 = .ok (.ireturn, 1) := by decide +kernel
theorem dX8_toss_32 : decode cX8_toss 32 = .ok (.aload_n 0, 1) := by decide +kernel
theorem dX8_toss_33 : decode cX8_toss 33 = .ok (.iload_n 1, 1) := by decide +kernel
theorem dX8_toss_34 : decode cX8_toss 34 = .ok (.iload_n 2, 1) := by decide +kernel
theorem dX8_toss_35 : decode cX8_toss 35 = .ok (.invokevirtual 236, 3) := by decide +kernel
theorem dX8_toss_38 : decode cX8_toss 38 = .ok (.aload_n 0, 1) := by decide +kernel
theorem dX8_toss_39 : decode cX8_toss 39 = .ok (.iload_n 1, 1) := by decide +kernel
theorem dX8_toss_40 : decode cX8_toss 40 = .ok (.invokevirtual 212, 3) := by decide +kernel
theorem dX8_toss_43 : decode cX8_toss 43 = .ok (.ireturn, 1) := by decide +kernel
theorem dX8_take_0 : decode cX8_take 0 = .ok (.aload_n 0, 1) := by decide +kernel
theorem dX8_take_1 : decode cX8_take 1 = .ok (.iload_n 1, 1) := by decide +kernel
theorem dX8_take_2 : decode cX8_take 2 = .ok (.invokevirtual 218, 3) := by decide +kernel
theorem dX8_take_5 : decode cX8_take 5 = .ok (.ifCond .eq 11, 3) := by decide +kernel
theorem dX8_take_8 : decode cX8_take 8 = .ok (.aload_n 0, 1) := by decide +kernel
theorem dX8_take_9 : decode cX8_take 9 = .ok (.iload_n 2, 1) := by decide +kernel
theorem dX8_take_10 : decode cX8_take 10 = .ok (.invokevirtual 232, 3) := by decide +kernel
theorem dX8_take_13 : decode cX8_take 13 = .ok (.ifCond .ne 6, 3) := by decide +kernel
theorem dX8_take_16 : decode cX8_take 16 = .ok (.ldc 222, 2) := by decide +kernel
theorem dX8_take_18 : decode cX8_take 18 = .ok (.ireturn, 1) := by decide +kernel
theorem dX8_take_19 : decode cX8_take 19 = .ok (.aload_n 0, 1) := by decide +kernel
theorem dX8_take_20 : decode cX8_take 20 = .ok (.iload_n 1, 1) := by decide +kernel
theorem dX8_take_21 : decode cX8_take 21 = .ok (.iload_n 2, 1) := by decide +kernel
theorem dX8_take_22 : decode cX8_take 22 = .ok (.invokevirtual 240, 3) := by decide +kernel
theorem dX8_take_25 : decode cX8_take 25 = .ok (.ifCond .ne 6, 3) := by decide +kernel
theorem dX8_take_28 : decode cX8_take 28 = .ok (.ldc 235, 2) := by decide +kernel
theorem dX8_take_30 : decode cX8_take 30 = .ok (.ireturn, 1) := by decide +kernel
theorem dX8_take_31 : decode cX8_take 31 = .ok (.aload_n 0, 1) := by decide +kernel
theorem dX8_take_32 : decode cX8_take 32 = .ok (.iload_n 1, 1) := by decide +kernel
theorem dX8_take_33 : decode cX8_take 33 = .ok (.iload_n 2, 1) := by decide +kernel
theorem dX8_take_34 : decode cX8_take 34 = .ok (.invokevirtual 243, 3) := by decide +kernel
theorem dX8_take_37 : decode cX8_take 37 = .ok (.aload_n 0, 1) := by decide +kernel
theorem dX8_take_38 : decode cX8_take 38 = .ok (.iload_n 1, 1) := by decide +kernel
theorem dX8_take_39 : decode cX8_take 39 = .ok (.invokevirtual 212, 3) := by decide +kernel
theorem dX8_take_42 : decode cX8_take 42 = .ok (.ireturn, 1) := by decide +kernel
theorem dX8_ashoreNow_0 : decode cX8_ashoreNow 0 = .ok (.aload_n 0, 1) := by decide +kernel
theorem dX8_ashoreNow_1 : decode cX8_ashoreNow 1 = .ok (.getfield 22, 3) := by decide +kernel
theorem dX8_ashoreNow_4 : decode cX8_ashoreNow 4 = .ok (.aload_n 0, 1) := by decide +kernel
theorem dX8_ashoreNow_5 : decode cX8_ashoreNow 5 = .ok (.getfield 106, 3) := by decide +kernel
theorem dX8_ashoreNow_8 : decode cX8_ashoreNow 8 = .ok (.iload_n 1, 1) := by decide +kernel
theorem dX8_ashoreNow_9 : decode cX8_ashoreNow 9 = .ok (.iastore, 1) := by decide +kernel
theorem dX8_ashoreNow_10 : decode cX8_ashoreNow 10 = .ok (.aload_n 0, 1) := by decide +kernel
theorem dX8_ashoreNow_11 : decode cX8_ashoreNow 11 = .ok (.getfield 25, 3) := by decide +kernel
theorem dX8_ashoreNow_14 : decode cX8_ashoreNow 14 = .ok (.aload_n 0, 1) := by decide +kernel
theorem dX8_ashoreNow_15 : decode cX8_ashoreNow 15 = .ok (.getfield 106, 3) := by decide +kernel
theorem dX8_ashoreNow_18 : decode cX8_ashoreNow 18 = .ok (.iconst (-1), 1) := by decide +kernel
theorem dX8_ashoreNow_19 : decode cX8_ashoreNow 19 = .ok (.iastore, 1) := by decide +kernel
theorem dX8_ashoreNow_20 : decode cX8_ashoreNow 20 = .ok (.aload_n 0, 1) := by decide +kernel
theorem dX8_ashoreNow_21 : decode cX8_ashoreNow 21 = .ok (.getfield 28, 3) := by decide +kernel
theorem dX8_ashoreNow_24 : decode cX8_ashoreNow 24 = .ok (.aload_n 0, 1) := by decide +kernel
theorem dX8_ashoreNow_25 : decode cX8_ashoreNow 25 = .ok (.getfield 106, 3) := by decide +kernel
theorem dX8_ashoreNow_28 : decode cX8_ashoreNow 28 = .ok (.iconst (-1), 1) := by decide +kernel
theorem dX8_ashoreNow_29 : decode cX8_ashoreNow 29 = .ok (.iastore, 1) := by decide +kernel
theorem dX8_ashoreNow_30 : decode cX8_ashoreNow 30 = .ok (.aload_n 0, 1) := by decide +kernel
theorem dX8_ashoreNow_31 : decode cX8_ashoreNow 31 = .ok (.getfield 31, 3) := by decide +kernel
theorem dX8_ashoreNow_34 : decode cX8_ashoreNow 34 = .ok (.aload_n 0, 1) := by decide +kernel
theorem dX8_ashoreNow_35 : decode cX8_ashoreNow 35 = .ok (.getfield 106, 3) := by decide +kernel
theorem dX8_ashoreNow_38 : decode cX8_ashoreNow 38 = .ok (.iconst 0, 1) := by decide +kernel
theorem dX8_ashoreNow_39 : decode cX8_ashoreNow 39 = .ok (.iastore, 1) := by decide +kernel
theorem dX8_ashoreNow_40 : decode cX8_ashoreNow 40 = .ok (.aload_n 0, 1) := by decide +kernel
theorem dX8_ashoreNow_41 : decode cX8_ashoreNow 41 = .ok (.dup, 1) := by decide +kernel
theorem dX8_ashoreNow_42 : decode cX8_ashoreNow 42 = .ok (.getfield 106, 3) := by decide +kernel
theorem dX8_ashoreNow_45 : decode cX8_ashoreNow 45 = .ok (.iconst 1, 1) := by decide +kernel
theorem dX8_ashoreNow_46 : decode cX8_ashoreNow 46 = .ok (.iadd, 1) := by decide +kernel
theorem dX8_ashoreNow_47 : decode cX8_ashoreNow 47 = .ok (.putfield 106, 3) := by decide +kernel
theorem dX8_ashoreNow_50 : decode cX8_ashoreNow 50 = .ok (.aload_n 0, 1) := by decide +kernel
theorem dX8_ashoreNow_51 : decode cX8_ashoreNow 51 = .ok (.getfield 106, 3) := by decide +kernel
theorem dX8_ashoreNow_54 : decode cX8_ashoreNow 54 = .ok (.iconst 1, 1) := by decide +kernel
theorem dX8_ashoreNow_55 : decode cX8_ashoreNow 55 = .ok (.isub, 1) := by decide +kernel
theorem dX8_ashoreNow_56 : decode cX8_ashoreNow 56 = .ok (.ireturn, 1) := by decide +kernel
theorem dX8_ashore_0 : decode cX8_ashore 0 = .ok (.aload_n 0, 1) := by decide +kernel
theorem dX8_ashore_1 : decode cX8_ashore 1 = .ok (.iload_n 1, 1) := by decide +kernel
theorem dX8_ashore_2 : decode cX8_ashore 2 = .ok (.invokevirtual 229, 3) := by decide +kernel
theorem dX8_ashore_5 : decode cX8_ashore 5 = .ok (.ifCond .ne 6, 3) := by decide +kernel
theorem dX8_ashore_8 : decode cX8_ashore 8 = .ok (.ldc 222, 2) := by decide +kernel
theorem dX8_ashore_10 : decode cX8_ashore 10 = .ok (.ireturn, 1) := by decide +kernel
theorem dX8_ashore_11 : decode cX8_ashore 11 = .ok (.aload_n 0, 1) := by decide +kernel
theorem dX8_ashore_12 : decode cX8_ashore 12 = .ok (.getfield 106, 3) := by decide +kernel
theorem dX8_ashore_15 : decode cX8_ashore 15 = .ok (.bipush 32, 2) := by decide +kernel
theorem dX8_ashore_17 : decode cX8_ashore 17 = .ok (.if_icmp .ne 8, 3) := by decide +kernel
theorem dX8_ashore_20 : decode cX8_ashore 20 = .ok (.ldc 121, 2) := by decide +kernel
theorem dX8_ashore_22 : decode cX8_ashore 22 = .ok (.goto 8, 3) := by decide +kernel
theorem dX8_ashore_25 : decode cX8_ashore 25 = .ok (.aload_n 0, 1) := by decide +kernel
theorem dX8_ashore_26 : decode cX8_ashore 26 = .ok (.iload_n 1, 1) := by decide +kernel
theorem dX8_ashore_27 : decode cX8_ashore 27 = .ok (.invokevirtual 246, 3) := by decide +kernel
theorem dX8_ashore_30 : decode cX8_ashore 30 = .ok (.ireturn, 1) := by decide +kernel
theorem dX8_gainOf_0 : decode cX8_gainOf 0 = .ok (.aload_n 0, 1) := by decide +kernel
theorem dX8_gainOf_1 : decode cX8_gainOf 1 = .ok (.iload_n 1, 1) := by decide +kernel
theorem dX8_gainOf_2 : decode cX8_gainOf 2 = .ok (.invokevirtual 205, 3) := by decide +kernel
theorem dX8_gainOf_5 : decode cX8_gainOf 5 = .ok (.aload_n 0, 1) := by decide +kernel
theorem dX8_gainOf_6 : decode cX8_gainOf 6 = .ok (.getfield 22, 3) := by decide +kernel
theorem dX8_gainOf_9 : decode cX8_gainOf 9 = .ok (.iload_n 2, 1) := by decide +kernel
theorem dX8_gainOf_10 : decode cX8_gainOf 10 = .ok (.iaload, 1) := by decide +kernel
theorem dX8_gainOf_11 : decode cX8_gainOf 11 = .ok (.invokestatic 201, 3) := by decide +kernel
theorem dX8_gainOf_14 : decode cX8_gainOf 14 = .ok (.ifCond .eq 7, 3) := by decide +kernel
theorem dX8_gainOf_17 : decode cX8_gainOf 17 = .ok (.iconst 0, 1) := by decide +kernel
theorem dX8_gainOf_18 : decode cX8_gainOf 18 = .ok (.goto 19, 3) := by decide +kernel
theorem dX8_gainOf_21 : decode cX8_gainOf 21 = .ok (.aload_n 0, 1) := by decide +kernel
theorem dX8_gainOf_22 : decode cX8_gainOf 22 = .ok (.getfield 13, 3) := by decide +kernel
theorem dX8_gainOf_25 : decode cX8_gainOf 25 = .ok (.bipush 6, 2) := by decide +kernel
theorem dX8_gainOf_27 : decode cX8_gainOf 27 = .ok (.iload_n 1, 1) := by decide +kernel
theorem dX8_gainOf_28 : decode cX8_gainOf 28 = .ok (.imul, 1) := by decide +kernel
theorem dX8_gainOf_29 : decode cX8_gainOf 29 = .ok (.aload_n 0, 1) := by decide +kernel
theorem dX8_gainOf_30 : decode cX8_gainOf 30 = .ok (.getfield 22, 3) := by decide +kernel
theorem dX8_gainOf_33 : decode cX8_gainOf 33 = .ok (.iload_n 2, 1) := by decide +kernel
theorem dX8_gainOf_34 : decode cX8_gainOf 34 = .ok (.iaload, 1) := by decide +kernel
theorem dX8_gainOf_35 : decode cX8_gainOf 35 = .ok (.iadd, 1) := by decide +kernel
theorem dX8_gainOf_36 : decode cX8_gainOf 36 = .ok (.iaload, 1) := by decide +kernel
theorem dX8_gainOf_37 : decode cX8_gainOf 37 = .ok (.ireturn, 1) := by decide +kernel
theorem dX8_first_0 : decode cX8_first 0 = .ok (.aload_n 0, 1) := by decide +kernel
theorem dX8_first_1 : decode cX8_first 1 = .ok (.iload_n 1, 1) := by decide +kernel
theorem dX8_first_2 : decode cX8_first 2 = .ok (.invokevirtual 232, 3) := by decide +kernel
theorem dX8_first_5 : decode cX8_first 5 = .ok (.ifCond .ne 6, 3) := by decide +kernel
theorem dX8_first_8 : decode cX8_first 8 = .ok (.ldc 222, 2) := by decide +kernel
theorem dX8_first_10 : decode cX8_first 10 = .ok (.ireturn, 1) := by decide +kernel
theorem dX8_first_11 : decode cX8_first 11 = .ok (.aload_n 0, 1) := by decide +kernel
theorem dX8_first_12 : decode cX8_first 12 = .ok (.getfield 25, 3) := by decide +kernel
theorem dX8_first_15 : decode cX8_first 15 = .ok (.iload_n 1, 1) := by decide +kernel
theorem dX8_first_16 : decode cX8_first 16 = .ok (.iaload, 1) := by decide +kernel
theorem dX8_first_17 : decode cX8_first 17 = .ok (.ifCond .lt 6, 3) := by decide +kernel
theorem dX8_first_20 : decode cX8_first 20 = .ok (.ldc 235, 2) := by decide +kernel
theorem dX8_first_22 : decode cX8_first 22 = .ok (.ireturn, 1) := by decide +kernel
theorem dX8_first_23 : decode cX8_first 23 = .ok (.aload_n 0, 1) := by decide +kernel
theorem dX8_first_24 : decode cX8_first 24 = .ok (.getfield 28, 3) := by decide +kernel
theorem dX8_first_27 : decode cX8_first 27 = .ok (.iload_n 1, 1) := by decide +kernel
theorem dX8_first_28 : decode cX8_first 28 = .ok (.iaload, 1) := by decide +kernel
theorem dX8_first_29 : decode cX8_first 29 = .ok (.ifCond .ge 8, 3) := by decide +kernel
theorem dX8_first_32 : decode cX8_first 32 = .ok (.bipush 50, 2) := by decide +kernel
theorem dX8_first_34 : decode cX8_first 34 = .ok (.goto 14, 3) := by decide +kernel
theorem dX8_first_37 : decode cX8_first 37 = .ok (.aload_n 0, 1) := by decide +kernel
theorem dX8_first_38 : decode cX8_first 38 = .ok (.getfield 7, 3) := by decide +kernel
theorem dX8_first_41 : decode cX8_first 41 = .ok (.aload_n 0, 1) := by decide +kernel
theorem dX8_first_42 : decode cX8_first 42 = .ok (.getfield 28, 3) := by decide +kernel
theorem dX8_first_45 : decode cX8_first 45 = .ok (.iload_n 1, 1) := by decide +kernel
theorem dX8_first_46 : decode cX8_first 46 = .ok (.iaload, 1) := by decide +kernel
theorem dX8_first_47 : decode cX8_first 47 = .ok (.iaload, 1) := by decide +kernel
theorem dX8_first_48 : decode cX8_first 48 = .ok (.istore_n 2, 1) := by decide +kernel
theorem dX8_first_49 : decode cX8_first 49 = .ok (.iconst (-1), 1) := by decide +kernel
theorem dX8_first_50 : decode cX8_first 50 = .ok (.istore_n 3, 1) := by decide +kernel
theorem dX8_first_51 : decode cX8_first 51 = .ok (.iconst 0, 1) := by decide +kernel
theorem dX8_first_52 : decode cX8_first 52 = .ok (.istore 4, 2) := by decide +kernel
theorem dX8_first_54 : decode cX8_first 54 = .ok (.iload 4, 2) := by decide +kernel
theorem dX8_first_56 : decode cX8_first 56 = .ok (.aload_n 0, 1) := by decide +kernel
theorem dX8_first_57 : decode cX8_first 57 = .ok (.getfield 99, 3) := by decide +kernel
theorem dX8_first_60 : decode cX8_first 60 = .ok (.if_icmp .ge 100, 3) := by decide +kernel
theorem dX8_first_63 : decode cX8_first 63 = .ok (.aload_n 0, 1) := by decide +kernel
theorem dX8_first_64 : decode cX8_first 64 = .ok (.iload 4, 2) := by decide +kernel
theorem dX8_first_66 : decode cX8_first 66 = .ok (.iload_n 1, 1) := by decide +kernel
theorem dX8_first_67 : decode cX8_first 67 = .ok (.invokevirtual 240, 3) := by decide +kernel
theorem dX8_first_70 : decode cX8_first 70 = .ok (.ifCond .eq 84, 3) := by decide +kernel
theorem dX8_first_73 : decode cX8_first 73 = .ok (.aload_n 0, 1) := by decide +kernel
theorem dX8_first_74 : decode cX8_first 74 = .ok (.iload 4, 2) := by decide +kernel
theorem dX8_first_76 : decode cX8_first 76 = .ok (.iload_n 1, 1) := by decide +kernel
theorem dX8_first_77 : decode cX8_first 77 = .ok (.invokevirtual 249, 3) := by decide +kernel
theorem dX8_first_80 : decode cX8_first 80 = .ok (.ifCond .le 74, 3) := by decide +kernel
theorem dX8_first_83 : decode cX8_first 83 = .ok (.iload_n 3, 1) := by decide +kernel
theorem dX8_first_84 : decode cX8_first 84 = .ok (.ifCond .ge 7, 3) := by decide +kernel
theorem dX8_first_87 : decode cX8_first 87 = .ok (.iconst 0, 1) := by decide +kernel
theorem dX8_first_88 : decode cX8_first 88 = .ok (.goto 27, 3) := by decide +kernel
theorem dX8_first_91 : decode cX8_first 91 = .ok (.aload_n 0, 1) := by decide +kernel
theorem dX8_first_92 : decode cX8_first 92 = .ok (.getfield 7, 3) := by decide +kernel
theorem dX8_first_95 : decode cX8_first 95 = .ok (.iload 4, 2) := by decide +kernel
theorem dX8_first_97 : decode cX8_first 97 = .ok (.iaload, 1) := by decide +kernel
theorem dX8_first_98 : decode cX8_first 98 = .ok (.iload_n 2, 1) := by decide +kernel
theorem dX8_first_99 : decode cX8_first 99 = .ok (.isub, 1) := by decide +kernel
theorem dX8_first_100 : decode cX8_first 100 = .ok (.invokestatic 252, 3) := by decide +kernel
theorem dX8_first_103 : decode cX8_first 103 = .ok (.aload_n 0, 1) := by decide +kernel
theorem dX8_first_104 : decode cX8_first 104 = .ok (.getfield 7, 3) := by decide +kernel
theorem dX8_first_107 : decode cX8_first 107 = .ok (.iload_n 3, 1) := by decide +kernel
theorem dX8_first_108 : decode cX8_first 108 = .ok (.iaload, 1) := by decide +kernel
theorem dX8_first_109 : decode cX8_first 109 = .ok (.iload_n 2, 1) := by decide +kernel
theorem dX8_first_110 : decode cX8_first 110 = .ok (.isub, 1) := by decide +kernel
theorem dX8_first_111 : decode cX8_first 111 = .ok (.invokestatic 252, 3) := by decide +kernel
theorem dX8_first_114 : decode cX8_first 114 = .ok (.isub, 1) := by decide +kernel
theorem dX8_first_115 : decode cX8_first 115 = .ok (.istore 5, 2) := by decide +kernel
theorem dX8_first_117 : decode cX8_first 117 = .ok (.iload_n 3, 1) := by decide +kernel
theorem dX8_first_118 : decode cX8_first 118 = .ok (.ifCond .lt 29, 3) := by decide +kernel
theorem dX8_first_121 : decode cX8_first 121 = .ok (.iload 5, 2) := by decide +kernel
theorem dX8_first_123 : decode cX8_first 123 = .ok (.ifCond .lt 24, 3) := by decide +kernel
theorem dX8_first_126 : decode cX8_first 126 = .ok (.iload 5, 2) := by decide +kernel
theorem dX8_first_128 : decode cX8_first 128 = .ok (.ifCond .ne 24, 3) := by decide +kernel
theorem dX8_first_131 : decode cX8_first 131 = .ok (.aload_n 0, 1) := by decide +kernel
theorem dX8_first_132 : decode cX8_first 132 = .ok (.iload 4, 2) := by decide +kernel
theorem dX8_first_134 : decode cX8_first 134 = .ok (.iload_n 1, 1) := by decide +kernel
theorem dX8_first_135 : decode cX8_first 135 = .ok (.invokevirtual 249, 3) := by decide +kernel
theorem dX8_first_138 : decode cX8_first 138 = .ok (.aload_n 0, 1) := by decide +kernel
theorem dX8_first_139 : decode cX8_first 139 = .ok (.iload_n 3, 1) := by decide +kernel
theorem dX8_first_140 : decode cX8_first 140 = .ok (.iload_n 1, 1) := by decide +kernel
theorem dX8_first_141 : decode cX8_first 141 = .ok (.invokevirtual 249, 3) := by decide +kernel
theorem dX8_first_144 : decode cX8_first 144 = .ok (.if_icmp .le 8, 3) := by decide +kernel
theorem dX8_first_147 : decode cX8_first 147 = .ok (.iload 4, 2) := by decide +kernel
theorem dX8_first_149 : decode cX8_first 149 = .ok (.goto 4, 3) := by decide +kernel
theorem dX8_first_152 : decode cX8_first 152 = .ok (.iload_n 3, 1) := by decide +kernel
theorem dX8_first_153 : decode cX8_first 153 = .ok (.istore_n 3, 1) := by decide +kernel
theorem dX8_first_154 : decode cX8_first 154 = .ok (.iinc 4 1, 3) := by decide +kernel
theorem dX8_first_157 : decode cX8_first 157 = .ok (.goto (-103), 3) := by decide +kernel
theorem dX8_first_160 : decode cX8_first 160 = .ok (.iload_n 3, 1) := by decide +kernel
theorem dX8_first_161 : decode cX8_first 161 = .ok (.ireturn, 1) := by decide +kernel
theorem dX8_isIdle_0 : decode cX8_isIdle 0 = .ok (.iconst 0, 1) := by decide +kernel
theorem dX8_isIdle_1 : decode cX8_isIdle 1 = .ok (.istore_n 3, 1) := by decide +kernel
theorem dX8_isIdle_2 : decode cX8_isIdle 2 = .ok (.iconst 0, 1) := by decide +kernel
theorem dX8_isIdle_3 : decode cX8_isIdle 3 = .ok (.istore 4, 2) := by decide +kernel
theorem dX8_isIdle_5 : decode cX8_isIdle 5 = .ok (.iload 4, 2) := by decide +kernel
theorem dX8_isIdle_7 : decode cX8_isIdle 7 = .ok (.aload_n 0, 1) := by decide +kernel
theorem dX8_isIdle_8 : decode cX8_isIdle 8 = .ok (.getfield 106, 3) := by decide +kernel
theorem dX8_isIdle_11 : decode cX8_isIdle 11 = .ok (.if_icmp .ge 44, 3) := by decide +kernel
theorem dX8_isIdle_14 : decode cX8_isIdle 14 = .ok (.iload_n 3, 1) := by decide +kernel
theorem dX8_isIdle_15 : decode cX8_isIdle 15 = .ok (.aload_n 0, 1) := by decide +kernel
theorem dX8_isIdle_16 : decode cX8_isIdle 16 = .ok (.getfield 25, 3) := by decide +kernel
theorem dX8_isIdle_19 : decode cX8_isIdle 19 = .ok (.iload 4, 2) := by decide +kernel
theorem dX8_isIdle_21 : decode cX8_isIdle 21 = .ok (.iaload, 1) := by decide +kernel
theorem dX8_isIdle_22 : decode cX8_isIdle 22 = .ok (.iload_n 1, 1) := by decide +kernel
theorem dX8_isIdle_23 : decode cX8_isIdle 23 = .ok (.if_icmp .ne 23, 3) := by decide +kernel
theorem dX8_isIdle_26 : decode cX8_isIdle 26 = .ok (.aload_n 0, 1) := by decide +kernel
theorem dX8_isIdle_27 : decode cX8_isIdle 27 = .ok (.getfield 22, 3) := by decide +kernel
theorem dX8_isIdle_30 : decode cX8_isIdle 30 = .ok (.iload 4, 2) := by decide +kernel
theorem dX8_isIdle_32 : decode cX8_isIdle 32 = .ok (.iaload, 1) := by decide +kernel
theorem dX8_isIdle_33 : decode cX8_isIdle 33 = .ok (.aload_n 0, 1) := by decide +kernel
theorem dX8_isIdle_34 : decode cX8_isIdle 34 = .ok (.getfield 22, 3) := by decide +kernel
theorem dX8_isIdle_37 : decode cX8_isIdle 37 = .ok (.iload_n 2, 1) := by decide +kernel
theorem dX8_isIdle_38 : decode cX8_isIdle 38 = .ok (.iaload, 1) := by decide +kernel
theorem dX8_isIdle_39 : decode cX8_isIdle 39 = .ok (.if_icmp .ne 7, 3) := by decide +kernel
theorem dX8_isIdle_42 : decode cX8_isIdle 42 = .ok (.iconst 1, 1) := by decide +kernel
theorem dX8_isIdle_43 : decode cX8_isIdle 43 = .ok (.goto 4, 3) := by decide +kernel
theorem dX8_isIdle_46 : decode cX8_isIdle 46 = .ok (.iconst 0, 1) := by decide +kernel
theorem dX8_isIdle_47 : decode cX8_isIdle 47 = .ok (.iadd, 1) := by decide +kernel
theorem dX8_isIdle_48 : decode cX8_isIdle 48 = .ok (.istore_n 3, 1) := by decide +kernel
theorem dX8_isIdle_49 : decode cX8_isIdle 49 = .ok (.iinc 4 1, 3) := by decide +kernel
theorem dX8_isIdle_52 : decode cX8_isIdle 52 = .ok (.goto (-47), 3) := by decide +kernel
theorem dX8_isIdle_55 : decode cX8_isIdle 55 = .ok (.iload_n 3, 1) := by decide +kernel
theorem dX8_isIdle_56 : decode cX8_isIdle 56 = .ok (.iconst 1, 1) := by decide +kernel
theorem dX8_isIdle_57 : decode cX8_isIdle 57 = .ok (.if_icmp .gt 22, 3) := by decide +kernel
theorem dX8_isIdle_60 : decode cX8_isIdle 60 = .ok (.aload_n 0, 1) := by decide +kernel
theorem dX8_isIdle_61 : decode cX8_isIdle 61 = .ok (.getfield 13, 3) := by decide +kernel
theorem dX8_isIdle_64 : decode cX8_isIdle 64 = .ok (.bipush 6, 2) := by decide +kernel
theorem dX8_isIdle_66 : decode cX8_isIdle 66 = .ok (.iload_n 1, 1) := by decide +kernel
theorem dX8_isIdle_67 : decode cX8_isIdle 67 = .ok (.imul, 1) := by decide +kernel
theorem dX8_isIdle_68 : decode cX8_isIdle 68 = .ok (.aload_n 0, 1) := by decide +kernel
theorem dX8_isIdle_69 : decode cX8_isIdle 69 = .ok (.getfield 22, 3) := by decide +kernel
theorem dX8_isIdle_72 : decode cX8_isIdle 72 = .ok (.iload_n 2, 1) := by decide +kernel
theorem dX8_isIdle_73 : decode cX8_isIdle 73 = .ok (.iaload, 1) := by decide +kernel
theorem dX8_isIdle_74 : decode cX8_isIdle 74 = .ok (.iadd, 1) := by decide +kernel
theorem dX8_isIdle_75 : decode cX8_isIdle 75 = .ok (.iaload, 1) := by decide +kernel
theorem dX8_isIdle_76 : decode cX8_isIdle 76 = .ok (.ifCond .ne 7, 3) := by decide +kernel
theorem dX8_isIdle_79 : decode cX8_isIdle 79 = .ok (.iconst 1, 1) := by decide +kernel
theorem dX8_isIdle_80 : decode cX8_isIdle 80 = .ok (.goto 4, 3) := by decide +kernel
theorem dX8_isIdle_83 : decode cX8_isIdle 83 = .ok (.iconst 0, 1) := by decide +kernel
theorem dX8_isIdle_84 : decode cX8_isIdle 84 = .ok (.ireturn, 1) := by decide +kernel
theorem dX8_bestTake_0 : decode cX8_bestTake 0 = .ok (.iconst (-1), 1) := by decide +kernel
theorem dX8_bestTake_1 : decode cX8_bestTake 1 = .ok (.istore_n 2, 1) := by decide +kernel
theorem dX8_bestTake_2 : decode cX8_bestTake 2 = .ok (.iconst 0, 1) := by decide +kernel
theorem dX8_bestTake_3 : decode cX8_bestTake 3 = .ok (.istore_n 3, 1) := by decide +kernel
theorem dX8_bestTake_4 : decode cX8_bestTake 4 = .ok (.iconst 0, 1) := by decide +kernel
theorem dX8_bestTake_5 : decode cX8_bestTake 5 = .ok (.istore 4, 2) := by decide +kernel
theorem dX8_bestTake_7 : decode cX8_bestTake 7 = .ok (.iload 4, 2) := by decide +kernel
theorem dX8_bestTake_9 : decode cX8_bestTake 9 = .ok (.aload_n 0, 1) := by decide +kernel
theorem dX8_bestTake_10 : decode cX8_bestTake 10 = .ok (.getfield 106, 3) := by decide +kernel
theorem dX8_bestTake_13 : decode cX8_bestTake 13 = .ok (.if_icmp .ge 58, 3) := by decide +kernel
theorem dX8_bestTake_16 : decode cX8_bestTake 16 = .ok (.aload_n 0, 1) := by decide +kernel
theorem dX8_bestTake_17 : decode cX8_bestTake 17 = .ok (.iload_n 1, 1) := by decide +kernel
theorem dX8_bestTake_18 : decode cX8_bestTake 18 = .ok (.iload 4, 2) := by decide +kernel
theorem dX8_bestTake_20 : decode cX8_bestTake 20 = .ok (.invokevirtual 240, 3) := by decide +kernel
theorem dX8_bestTake_23 : decode cX8_bestTake 23 = .ok (.ifCond .eq 13, 3) := by decide +kernel
theorem dX8_bestTake_26 : decode cX8_bestTake 26 = .ok (.aload_n 0, 1) := by decide +kernel
theorem dX8_bestTake_27 : decode cX8_bestTake 27 = .ok (.iload_n 1, 1) := by decide +kernel
theorem dX8_bestTake_28 : decode cX8_bestTake 28 = .ok (.iload 4, 2) := by decide +kernel
theorem dX8_bestTake_30 : decode cX8_bestTake 30 = .ok (.invokevirtual 249, 3) := by decide +kernel
theorem dX8_bestTake_33 : decode cX8_bestTake 33 = .ok (.goto 4, 3) := by decide +kernel
theorem dX8_bestTake_36 : decode cX8_bestTake 36 = .ok (.iconst 0, 1) := by decide +kernel
theorem dX8_bestTake_37 : decode cX8_bestTake 37 = .ok (.istore 5, 2) := by decide +kernel
theorem dX8_bestTake_39 : decode cX8_bestTake 39 = .ok (.iload 5, 2) := by decide +kernel
theorem dX8_bestTake_41 : decode cX8_bestTake 41 = .ok (.iload_n 3, 1) := by decide +kernel
theorem dX8_bestTake_42 : decode cX8_bestTake 42 = .ok (.if_icmp .le 8, 3) := by decide +kernel
theorem dX8_bestTake_45 : decode cX8_bestTake 45 = .ok (.iload 4, 2) := by decide +kernel
theorem dX8_bestTake_47 : decode cX8_bestTake 47 = .ok (.goto 4, 3) := by decide +kernel
theorem dX8_bestTake_50 : decode cX8_bestTake 50 = .ok (.iload_n 2, 1) := by decide +kernel
theorem dX8_bestTake_51 : decode cX8_bestTake 51 = .ok (.istore_n 2, 1) := by decide +kernel
theorem dX8_bestTake_52 : decode cX8_bestTake 52 = .ok (.iload 5, 2) := by decide +kernel
theorem dX8_bestTake_54 : decode cX8_bestTake 54 = .ok (.iload_n 3, 1) := by decide +kernel
theorem dX8_bestTake_55 : decode cX8_bestTake 55 = .ok (.if_icmp .le 8, 3) := by decide +kernel
theorem dX8_bestTake_58 : decode cX8_bestTake 58 = .ok (.iload 5, 2) := by decide +kernel
theorem dX8_bestTake_60 : decode cX8_bestTake 60 = .ok (.goto 4, 3) := by decide +kernel
theorem dX8_bestTake_63 : decode cX8_bestTake 63 = .ok (.iload_n 3, 1) := by decide +kernel
theorem dX8_bestTake_64 : decode cX8_bestTake 64 = .ok (.istore_n 3, 1) := by decide +kernel
theorem dX8_bestTake_65 : decode cX8_bestTake 65 = .ok (.iinc 4 1, 3) := by decide +kernel
theorem dX8_bestTake_68 : decode cX8_bestTake 68 = .ok (.goto (-61), 3) := by decide +kernel
theorem dX8_bestTake_71 : decode cX8_bestTake 71 = .ok (.iload_n 2, 1) := by decide +kernel
theorem dX8_bestTake_72 : decode cX8_bestTake 72 = .ok (.ireturn, 1) := by decide +kernel
theorem dX8_weekNow_0 : decode cX8_weekNow 0 = .ok (.iconst 0, 1) := by decide +kernel
theorem dX8_weekNow_1 : decode cX8_weekNow 1 = .ok (.istore_n 1, 1) := by decide +kernel
theorem dX8_weekNow_2 : decode cX8_weekNow 2 = .ok (.iconst 0, 1) := by decide +kernel
theorem dX8_weekNow_3 : decode cX8_weekNow 3 = .ok (.istore_n 2, 1) := by decide +kernel
theorem dX8_weekNow_4 : decode cX8_weekNow 4 = .ok (.iload_n 2, 1) := by decide +kernel
theorem dX8_weekNow_5 : decode cX8_weekNow 5 = .ok (.aload_n 0, 1) := by decide +kernel
theorem dX8_weekNow_6 : decode cX8_weekNow 6 = .ok (.getfield 99, 3) := by decide +kernel
theorem dX8_weekNow_9 : decode cX8_weekNow 9 = .ok (.if_icmp .ge 74, 3) := by decide +kernel
theorem dX8_weekNow_12 : decode cX8_weekNow 12 = .ok (.aload_n 0, 1) := by decide +kernel
theorem dX8_weekNow_13 : decode cX8_weekNow 13 = .ok (.iload_n 2, 1) := by decide +kernel
theorem dX8_weekNow_14 : decode cX8_weekNow 14 = .ok (.invokevirtual 255, 3) := by decide +kernel
theorem dX8_weekNow_17 : decode cX8_weekNow 17 = .ok (.istore_n 3, 1) := by decide +kernel
theorem dX8_weekNow_18 : decode cX8_weekNow 18 = .ok (.iload_n 3, 1) := by decide +kernel
theorem dX8_weekNow_19 : decode cX8_weekNow 19 = .ok (.ifCond .lt 12, 3) := by decide +kernel
theorem dX8_weekNow_22 : decode cX8_weekNow 22 = .ok (.aload_n 0, 1) := by decide +kernel
theorem dX8_weekNow_23 : decode cX8_weekNow 23 = .ok (.iload_n 2, 1) := by decide +kernel
theorem dX8_weekNow_24 : decode cX8_weekNow 24 = .ok (.iload_n 3, 1) := by decide +kernel
theorem dX8_weekNow_25 : decode cX8_weekNow 25 = .ok (.invokevirtual 243, 3) := by decide +kernel
theorem dX8_weekNow_28 : decode cX8_weekNow 28 = .ok (.iinc 1 1, 3) := by decide +kernel
theorem dX8_weekNow_31 : decode cX8_weekNow 31 = .ok (.iconst 0, 1) := by decide +kernel
theorem dX8_weekNow_32 : decode cX8_weekNow 32 = .ok (.istore 4, 2) := by decide +kernel
theorem dX8_weekNow_34 : decode cX8_weekNow 34 = .ok (.iload 4, 2) := by decide +kernel
theorem dX8_weekNow_36 : decode cX8_weekNow 36 = .ok (.aload_n 0, 1) := by decide +kernel
theorem dX8_weekNow_37 : decode cX8_weekNow 37 = .ok (.getfield 106, 3) := by decide +kernel
theorem dX8_weekNow_40 : decode cX8_weekNow 40 = .ok (.if_icmp .ge 37, 3) := by decide +kernel
theorem dX8_weekNow_43 : decode cX8_weekNow 43 = .ok (.aload_n 0, 1) := by decide +kernel
theorem dX8_weekNow_44 : decode cX8_weekNow 44 = .ok (.getfield 25, 3) := by decide +kernel
theorem dX8_weekNow_47 : decode cX8_weekNow 47 = .ok (.iload 4, 2) := by decide +kernel
theorem dX8_weekNow_49 : decode cX8_weekNow 49 = .ok (.iaload, 1) := by decide +kernel
theorem dX8_weekNow_50 : decode cX8_weekNow 50 = .ok (.iload_n 2, 1) := by decide +kernel
theorem dX8_weekNow_51 : decode cX8_weekNow 51 = .ok (.if_icmp .ne 20, 3) := by decide +kernel
theorem dX8_weekNow_54 : decode cX8_weekNow 54 = .ok (.aload_n 0, 1) := by decide +kernel
theorem dX8_weekNow_55 : decode cX8_weekNow 55 = .ok (.iload_n 2, 1) := by decide +kernel
theorem dX8_weekNow_56 : decode cX8_weekNow 56 = .ok (.iload 4, 2) := by decide +kernel
theorem dX8_weekNow_58 : decode cX8_weekNow 58 = .ok (.invokevirtual 258, 3) := by decide +kernel
theorem dX8_weekNow_61 : decode cX8_weekNow 61 = .ok (.ifCond .eq 10, 3) := by decide +kernel
theorem dX8_weekNow_64 : decode cX8_weekNow 64 = .ok (.aload_n 0, 1) := by decide +kernel
theorem dX8_weekNow_65 : decode cX8_weekNow 65 = .ok (.iload_n 2, 1) := by decide +kernel
theorem dX8_weekNow_66 : decode cX8_weekNow 66 = .ok (.iload 4, 2) := by decide +kernel
theorem dX8_weekNow_68 : decode cX8_weekNow 68 = .ok (.invokevirtual 236, 3) := by decide +kernel
theorem dX8_weekNow_71 : decode cX8_weekNow 71 = .ok (.iinc 4 1, 3) := by decide +kernel
theorem dX8_weekNow_74 : decode cX8_weekNow 74 = .ok (.goto (-40), 3) := by decide +kernel
theorem dX8_weekNow_77 : decode cX8_weekNow 77 = .ok (.iinc 2 1, 3) := by decide +kernel
theorem dX8_weekNow_80 : decode cX8_weekNow 80 = .ok (.goto (-76), 3) := by decide +kernel
theorem dX8_weekNow_83 : decode cX8_weekNow 83 = .ok (.aload_n 0, 1) := by decide +kernel
theorem dX8_weekNow_84 : decode cX8_weekNow 84 = .ok (.dup, 1) := by decide +kernel
theorem dX8_weekNow_85 : decode cX8_weekNow 85 = .ok (.getfield 109, 3) := by decide +kernel
theorem dX8_weekNow_88 : decode cX8_weekNow 88 = .ok (.iconst 1, 1) := by decide +kernel
theorem dX8_weekNow_89 : decode cX8_weekNow 89 = .ok (.iadd, 1) := by decide +kernel
theorem dX8_weekNow_90 : decode cX8_weekNow 90 = .ok (.putfield 109, 3) := by decide +kernel
theorem dX8_weekNow_93 : decode cX8_weekNow 93 = .ok (.iload_n 1, 1) := by decide +kernel
theorem dX8_weekNow_94 : decode cX8_weekNow 94 = .ok (.ireturn, 1) := by decide +kernel
theorem dX8_week_0 : decode cX8_week 0 = .ok (.iload_n 1, 1) := by decide +kernel
theorem dX8_week_1 : decode cX8_week 1 = .ok (.i2l, 1) := by decide +kernel
theorem dX8_week_2 : decode cX8_week 2 = .ok (.lconst 1, 1) := by decide +kernel
theorem dX8_week_3 : decode cX8_week 3 = .ok (.ldc2_w 261, 3) := by decide +kernel
theorem dX8_week_6 : decode cX8_week 6 = .ok (.invokestatic 102, 3) := by decide +kernel
theorem dX8_week_9 : decode cX8_week 9 = .ok (.ifCond .ne 6, 3) := by decide +kernel
theorem dX8_week_12 : decode cX8_week 12 = .ok (.ldc 117, 2) := by decide +kernel
theorem dX8_week_14 : decode cX8_week 14 = .ok (.ireturn, 1) := by decide +kernel
theorem dX8_week_15 : decode cX8_week 15 = .ok (.iconst 0, 1) := by decide +kernel
theorem dX8_week_16 : decode cX8_week 16 = .ok (.istore_n 2, 1) := by decide +kernel
theorem dX8_week_17 : decode cX8_week 17 = .ok (.iconst 0, 1) := by decide +kernel
theorem dX8_week_18 : decode cX8_week 18 = .ok (.istore_n 3, 1) := by decide +kernel
theorem dX8_week_19 : decode cX8_week 19 = .ok (.iload_n 3, 1) := by decide +kernel
theorem dX8_week_20 : decode cX8_week 20 = .ok (.iload_n 1, 1) := by decide +kernel
theorem dX8_week_21 : decode cX8_week 21 = .ok (.if_icmp .ge 20, 3) := by decide +kernel
theorem dX8_week_24 : decode cX8_week 24 = .ok (.aload_n 0, 1) := by decide +kernel
theorem dX8_week_25 : decode cX8_week 25 = .ok (.invokevirtual 263, 3) := by decide +kernel
theorem dX8_week_28 : decode cX8_week 28 = .ok (.istore 4, 2) := by decide +kernel
theorem dX8_week_30 : decode cX8_week 30 = .ok (.iload_n 2, 1) := by decide +kernel
theorem dX8_week_31 : decode cX8_week 31 = .ok (.iload 4, 2) := by decide +kernel
theorem dX8_week_33 : decode cX8_week 33 = .ok (.iadd, 1) := by decide +kernel
theorem dX8_week_34 : decode cX8_week 34 = .ok (.istore_n 2, 1) := by decide +kernel
theorem dX8_week_35 : decode cX8_week 35 = .ok (.iinc 3 1, 3) := by decide +kernel
