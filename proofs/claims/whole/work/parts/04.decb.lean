theorem dX6_init_0 : decode cX6_init 0 = .ok (.aload_n 0, 1) := by decide +kernel
theorem dX6_init_1 : decode cX6_init 1 = .ok (.invokespecial 3, 3) := by decide +kernel
theorem dX6_init_4 : decode cX6_init 4 = .ok (.aload_n 0, 1) := by decide +kernel
theorem dX6_init_5 : decode cX6_init 5 = .ok (.iconst 2, 1) := by decide +kernel
theorem dX6_init_6 : decode cX6_init 6 = .ok (.newarray .int, 2) := by decide +kernel
theorem dX6_init_8 : decode cX6_init 8 = .ok (.putfield 9, 3) := by decide +kernel
theorem dX6_init_11 : decode cX6_init 11 = .ok (.aload_n 0, 1) := by decide +kernel
theorem dX6_init_12 : decode cX6_init 12 = .ok (.iconst 2, 1) := by decide +kernel
theorem dX6_init_13 : decode cX6_init 13 = .ok (.newarray .int, 2) := by decide +kernel
theorem dX6_init_15 : decode cX6_init 15 = .ok (.putfield 15, 3) := by decide +kernel
theorem dX6_init_18 : decode cX6_init 18 = .ok (.aload_n 0, 1) := by decide +kernel
theorem dX6_init_19 : decode cX6_init 19 = .ok (.iconst 2, 1) := by decide +kernel
theorem dX6_init_20 : decode cX6_init 20 = .ok (.newarray .int, 2) := by decide +kernel
theorem dX6_init_22 : decode cX6_init 22 = .ok (.putfield 18, 3) := by decide +kernel
theorem dX6_init_25 : decode cX6_init 25 = .ok (.aload_n 0, 1) := by decide +kernel
theorem dX6_init_26 : decode cX6_init 26 = .ok (.bipush 6, 2) := by decide +kernel
theorem dX6_init_28 : decode cX6_init 28 = .ok (.newarray .int, 2) := by decide +kernel
theorem dX6_init_30 : decode cX6_init 30 = .ok (.putfield 21, 3) := by decide +kernel
theorem dX6_init_33 : decode cX6_init 33 = .ok (.aload_n 0, 1) := by decide +kernel
theorem dX6_init_34 : decode cX6_init 34 = .ok (.bipush 6, 2) := by decide +kernel
theorem dX6_init_36 : decode cX6_init 36 = .ok (.newarray .int, 2) := by decide +kernel
theorem dX6_init_38 : decode cX6_init 38 = .ok (.putfield 24, 3) := by decide +kernel
theorem dX6_init_41 : decode cX6_init 41 = .ok (.aload_n 0, 1) := by decide +kernel
theorem dX6_init_42 : decode cX6_init 42 = .ok (.aload_n 1, 1) := by decide +kernel
theorem dX6_init_43 : decode cX6_init 43 = .ok (.putfield 27, 3) := by decide +kernel
theorem dX6_init_46 : decode cX6_init 46 = .ok (.return_, 1) := by decide +kernel
theorem dX6_setUp_0 : decode cX6_setUp 0 = .ok (.aload_n 0, 1) := by decide +kernel
theorem dX6_setUp_1 : decode cX6_setUp 1 = .ok (.getfield 9, 3) := by decide +kernel
theorem dX6_setUp_4 : decode cX6_setUp 4 = .ok (.iconst 0, 1) := by decide +kernel
theorem dX6_setUp_5 : decode cX6_setUp 5 = .ok (.iload_n 1, 1) := by decide +kernel
theorem dX6_setUp_6 : decode cX6_setUp 6 = .ok (.iastore, 1) := by decide +kernel
theorem dX6_setUp_7 : decode cX6_setUp 7 = .ok (.aload_n 0, 1) := by decide +kernel
theorem dX6_setUp_8 : decode cX6_setUp 8 = .ok (.getfield 9, 3) := by decide +kernel
theorem dX6_setUp_11 : decode cX6_setUp 11 = .ok (.iconst 1, 1) := by decide +kernel
theorem dX6_setUp_12 : decode cX6_setUp 12 = .ok (.iload_n 2, 1) := by decide +kernel
theorem dX6_setUp_13 : decode cX6_setUp 13 = .ok (.iastore, 1) := by decide +kernel
theorem dX6_setUp_14 : decode cX6_setUp 14 = .ok (.iconst 0, 1) := by decide +kernel
theorem dX6_setUp_15 : decode cX6_setUp 15 = .ok (.istore 4, 2) := by decide +kernel
theorem dX6_setUp_17 : decode cX6_setUp 17 = .ok (.iload 4, 2) := by decide +kernel
theorem dX6_setUp_19 : decode cX6_setUp 19 = .ok (.iconst 2, 1) := by decide +kernel
theorem dX6_setUp_20 : decode cX6_setUp 20 = .ok (.if_icmp .ge 54, 3) := by decide +kernel
theorem dX6_setUp_23 : decode cX6_setUp 23 = .ok (.aload_n 0, 1) := by decide +kernel
theorem dX6_setUp_24 : decode cX6_setUp 24 = .ok (.getfield 15, 3) := by decide +kernel
theorem dX6_setUp_27 : decode cX6_setUp 27 = .ok (.iload 4, 2) := by decide +kernel
theorem dX6_setUp_29 : decode cX6_setUp 29 = .ok (.iconst 4, 1) := by decide +kernel
theorem dX6_setUp_30 : decode cX6_setUp 30 = .ok (.aload_n 0, 1) := by decide +kernel
theorem dX6_setUp_31 : decode cX6_setUp 31 = .ok (.getfield 27, 3) := by decide +kernel
theorem dX6_setUp_34 : decode cX6_setUp 34 = .ok (.getfield 31, 3) := by decide +kernel
theorem dX6_setUp_37 : decode cX6_setUp 37 = .ok (.aload_n 0, 1) := by decide +kernel
theorem dX6_setUp_38 : decode cX6_setUp 38 = .ok (.getfield 9, 3) := by decide +kernel
theorem dX6_setUp_41 : decode cX6_setUp 41 = .ok (.iload 4, 2) := by decide +kernel
theorem dX6_setUp_43 : decode cX6_setUp 43 = .ok (.iaload, 1) := by decide +kernel
theorem dX6_setUp_44 : decode cX6_setUp 44 = .ok (.iaload, 1) := by decide +kernel
theorem dX6_setUp_45 : decode cX6_setUp 45 = .ok (.isub, 1) := by decide +kernel
theorem dX6_setUp_46 : decode cX6_setUp 46 = .ok (.iastore, 1) := by decide +kernel
theorem dX6_setUp_47 : decode cX6_setUp 47 = .ok (.aload_n 0, 1) := by decide +kernel
theorem dX6_setUp_48 : decode cX6_setUp 48 = .ok (.getfield 18, 3) := by decide +kernel
theorem dX6_setUp_51 : decode cX6_setUp 51 = .ok (.iload 4, 2) := by decide +kernel
theorem dX6_setUp_53 : decode cX6_setUp 53 = .ok (.aload_n 0, 1) := by decide +kernel
theorem dX6_setUp_54 : decode cX6_setUp 54 = .ok (.getfield 27, 3) := by decide +kernel
theorem dX6_setUp_57 : decode cX6_setUp 57 = .ok (.aload_n 0, 1) := by decide +kernel
theorem dX6_setUp_58 : decode cX6_setUp 58 = .ok (.getfield 9, 3) := by decide +kernel
theorem dX6_setUp_61 : decode cX6_setUp 61 = .ok (.iload 4, 2) := by decide +kernel
theorem dX6_setUp_63 : decode cX6_setUp 63 = .ok (.iaload, 1) := by decide +kernel
theorem dX6_setUp_64 : decode cX6_setUp 64 = .ok (.invokevirtual 36, 3) := by decide +kernel
theorem dX6_setUp_67 : decode cX6_setUp 67 = .ok (.iastore, 1) := by decide +kernel
theorem dX6_setUp_68 : decode cX6_setUp 68 = .ok (.iinc 4 1, 3) := by decide +kernel
theorem dX6_setUp_71 : decode cX6_setUp 71 = .ok (.goto (-54), 3) := by decide +kernel
theorem dX6_setUp_74 : decode cX6_setUp 74 = .ok (.aload_n 0, 1) := by decide +kernel
theorem dX6_setUp_75 : decode cX6_setUp 75 = .ok (.getfield 21, 3) := by decide +kernel
theorem dX6_setUp_78 : decode cX6_setUp 78 = .ok (.iconst 0, 1) := by decide +kernel
theorem dX6_setUp_79 : decode cX6_setUp 79 = .ok (.invokestatic 40, 3) := by decide +kernel
theorem dX6_setUp_82 : decode cX6_setUp 82 = .ok (.iconst 0, 1) := by decide +kernel
theorem dX6_setUp_83 : decode cX6_setUp 83 = .ok (.istore 4, 2) := by decide +kernel
theorem dX6_setUp_85 : decode cX6_setUp 85 = .ok (.iconst 0, 1) := by decide +kernel
theorem dX6_setUp_86 : decode cX6_setUp 86 = .ok (.istore 5, 2) := by decide +kernel
theorem dX6_setUp_88 : decode cX6_setUp 88 = .ok (.iload 5, 2) := by decide +kernel
theorem dX6_setUp_90 : decode cX6_setUp 90 = .ok (.aload_n 0, 1) := by decide +kernel
theorem dX6_setUp_91 : decode cX6_setUp 91 = .ok (.getfield 27, 3) := by decide +kernel
theorem dX6_setUp_94 : decode cX6_setUp 94 = .ok (.getfield 46, 3) := by decide +kernel
theorem dX6_setUp_97 : decode cX6_setUp 97 = .ok (.if_icmp .ge 97, 3) := by decide +kernel
theorem dX6_setUp_100 : decode cX6_setUp 100 = .ok (.iload 4, 2) := by decide +kernel
theorem dX6_setUp_102 : decode cX6_setUp 102 = .ok (.bipush 8, 2) := by decide +kernel
theorem dX6_setUp_104 : decode cX6_setUp 104 = .ok (.if_icmp .ge 90, 3) := by decide +kernel
theorem dX6_setUp_107 : decode cX6_setUp 107 = .ok (.aload_n 0, 1) := by decide +kernel
theorem dX6_setUp_108 : decode cX6_setUp 108 = .ok (.getfield 27, 3) := by decide +kernel
theorem dX6_setUp_111 : decode cX6_setUp 111 = .ok (.iload 5, 2) := by decide +kernel
theorem dX6_setUp_113 : decode cX6_setUp 113 = .ok (.invokevirtual 50, 3) := by decide +kernel
theorem dX6_setUp_116 : decode cX6_setUp 116 = .ok (.ifCond .eq 72, 3) := by decide +kernel
theorem dX6_setUp_119 : decode cX6_setUp 119 = .ok (.aload_n 0, 1) := by decide +kernel
theorem dX6_setUp_120 : decode cX6_setUp 120 = .ok (.getfield 27, 3) := by decide +kernel
theorem dX6_setUp_123 : decode cX6_setUp 123 = .ok (.getfield 54, 3) := by decide +kernel
theorem dX6_setUp_126 : decode cX6_setUp 126 = .ok (.iload 5, 2) := by decide +kernel
theorem dX6_setUp_128 : decode cX6_setUp 128 = .ok (.iaload, 1) := by decide +kernel
theorem dX6_setUp_129 : decode cX6_setUp 129 = .ok (.iload_n 3, 1) := by decide +kernel
theorem dX6_setUp_130 : decode cX6_setUp 130 = .ok (.if_icmp .ne 58, 3) := by decide +kernel
theorem dX6_setUp_133 : decode cX6_setUp 133 = .ok (.aload_n 0, 1) := by decide +kernel
theorem dX6_setUp_134 : decode cX6_setUp 134 = .ok (.getfield 27, 3) := by decide +kernel
theorem dX6_setUp_137 : decode cX6_setUp 137 = .ok (.getfield 57, 3) := by decide +kernel
theorem dX6_setUp_140 : decode cX6_setUp 140 = .ok (.iload 5, 2) := by decide +kernel
theorem dX6_setUp_142 : decode cX6_setUp 142 = .ok (.iaload, 1) := by decide +kernel
theorem dX6_setUp_143 : decode cX6_setUp 143 = .ok (.istore 6, 2) := by decide +kernel
theorem dX6_setUp_145 : decode cX6_setUp 145 = .ok (.aload_n 0, 1) := by decide +kernel
theorem dX6_setUp_146 : decode cX6_setUp 146 = .ok (.getfield 24, 3) := by decide +kernel
theorem dX6_setUp_149 : decode cX6_setUp 149 = .ok (.iload 6, 2) := by decide +kernel
theorem dX6_setUp_151 : decode cX6_setUp 151 = .ok (.aload_n 0, 1) := by decide +kernel
theorem dX6_setUp_152 : decode cX6_setUp 152 = .ok (.getfield 21, 3) := by decide +kernel
theorem dX6_setUp_155 : decode cX6_setUp 155 = .ok (.iload 6, 2) := by decide +kernel
theorem dX6_setUp_157 : decode cX6_setUp 157 = .ok (.iaload, 1) := by decide +kernel
theorem dX6_setUp_158 : decode cX6_setUp 158 = .ok (.ifCond .ne 8, 3) := by decide +kernel
theorem dX6_setUp_161 : decode cX6_setUp 161 = .ok (.iload 5, 2) := by decide +kernel
theorem dX6_setUp_163 : decode cX6_setUp 163 = .ok (.goto 10, 3) := by decide +kernel
theorem dX6_setUp_166 : decode cX6_setUp 166 = .ok (.aload_n 0, 1) := by decide +kernel
theorem dX6_setUp_167 : decode cX6_setUp 167 = .ok (.getfield 24, 3) := by decide +kernel
theorem dX6_setUp_170 : decode cX6_setUp 170 = .ok (.iload 6, 2) := by decide +kernel
theorem dX6_setUp_172 : decode cX6_setUp 172 = .ok (.iaload, 1) := by decide +kernel
theorem dX6_setUp_173 : decode cX6_setUp 173 = .ok (.iastore, 1) := by decide +kernel
theorem dX6_setUp_174 : decode cX6_setUp 174 = .ok (.aload_n 0, 1) := by decide +kernel
theorem dX6_setUp_175 : decode cX6_setUp 175 = .ok (.getfield 21, 3) := by decide +kernel
theorem dX6_setUp_178 : decode cX6_setUp 178 = .ok (.iload 6, 2) := by decide +kernel
theorem dX6_setUp_180 : decode cX6_setUp 180 = .ok (.dup2, 1) := by decide +kernel
theorem dX6_setUp_181 : decode cX6_setUp 181 = .ok (.iaload, 1) := by decide +kernel
theorem dX6_setUp_182 : decode cX6_setUp 182 = .ok (.iconst 1, 1) := by decide +kernel
theorem dX6_setUp_183 : decode cX6_setUp 183 = .ok (.iadd, 1) := by decide +kernel
theorem dX6_setUp_184 : decode cX6_setUp 184 = .ok (.iastore, 1) := by decide +kernel
theorem dX6_setUp_185 : decode cX6_setUp 185 = .ok (.iinc 4 1, 3) := by decide +kernel
theorem dX6_setUp_188 : decode cX6_setUp 188 = .ok (.iinc 5 1, 3) := by decide +kernel
theorem dX6_setUp_191 : decode cX6_setUp 191 = .ok (.goto (-103), 3) := by decide +kernel
theorem dX6_setUp_194 : decode cX6_setUp 194 = .ok (.return_, 1) := by decide +kernel
theorem dX6_playOut_0 : decode cX6_playOut 0 = .ok (.aload_n 0, 1) := by decide +kernel
theorem dX6_playOut_1 : decode cX6_playOut 1 = .ok (.getfield 27, 3) := by decide +kernel
theorem dX6_playOut_4 : decode cX6_playOut 4 = .ok (.aload_n 0, 1) := by decide +kernel
theorem dX6_playOut_5 : decode cX6_playOut 5 = .ok (.getfield 9, 3) := by decide +kernel
theorem dX6_playOut_8 : decode cX6_playOut 8 = .ok (.iconst 0, 1) := by decide +kernel
theorem dX6_playOut_9 : decode cX6_playOut 9 = .ok (.iaload, 1) := by decide +kernel
theorem dX6_playOut_10 : decode cX6_playOut 10 = .ok (.invokevirtual 60, 3) := by decide +kernel
theorem dX6_playOut_13 : decode cX6_playOut 13 = .ok (.aload_n 0, 1) := by decide +kernel
theorem dX6_playOut_14 : decode cX6_playOut 14 = .ok (.getfield 27, 3) := by decide +kernel
theorem dX6_playOut_17 : decode cX6_playOut 17 = .ok (.aload_n 0, 1) := by decide +kernel
theorem dX6_playOut_18 : decode cX6_playOut 18 = .ok (.getfield 9, 3) := by decide +kernel
theorem dX6_playOut_21 : decode cX6_playOut 21 = .ok (.iconst 1, 1) := by decide +kernel
theorem dX6_playOut_22 : decode cX6_playOut 22 = .ok (.iaload, 1) := by decide +kernel
theorem dX6_playOut_23 : decode cX6_playOut 23 = .ok (.invokevirtual 60, 3) := by decide +kernel
theorem dX6_playOut_26 : decode cX6_playOut 26 = .ok (.isub, 1) := by decide +kernel
theorem dX6_playOut_27 : decode cX6_playOut 27 = .ok (.istore_n 2, 1) := by decide +kernel
theorem dX6_playOut_28 : decode cX6_playOut 28 = .ok (.aload_n 0, 1) := by decide +kernel
theorem dX6_playOut_29 : decode cX6_playOut 29 = .ok (.iconst (-1), 1) := by decide +kernel
theorem dX6_playOut_30 : decode cX6_playOut 30 = .ok (.putfield 63, 3) := by decide +kernel
theorem dX6_playOut_33 : decode cX6_playOut 33 = .ok (.iload_n 1, 1) := by decide +kernel
theorem dX6_playOut_34 : decode cX6_playOut 34 = .ok (.ifCond .gt 5, 3) := by decide +kernel
theorem dX6_playOut_37 : decode cX6_playOut 37 = .ok (.iload_n 2, 1) := by decide +kernel
theorem dX6_playOut_38 : decode cX6_playOut 38 = .ok (.ireturn, 1) := by decide +kernel
theorem dX6_playOut_39 : decode cX6_playOut 39 = .ok (.aload_n 0, 1) := by decide +kernel
theorem dX6_playOut_40 : decode cX6_playOut 40 = .ok (.iload_n 1, 1) := by decide +kernel
theorem dX6_playOut_41 : decode cX6_playOut 41 = .ok (.iconst 1, 1) := by decide +kernel
theorem dX6_playOut_42 : decode cX6_playOut 42 = .ok (.isub, 1) := by decide +kernel
theorem dX6_playOut_43 : decode cX6_playOut 43 = .ok (.iconst 1, 1) := by decide +kernel
theorem dX6_playOut_44 : decode cX6_playOut 44 = .ok (.invokevirtual 66, 3) := by decide +kernel
theorem dX6_playOut_47 : decode cX6_playOut 47 = .ok (.ineg, 1) := by decide +kernel
theorem dX6_playOut_48 : decode cX6_playOut 48 = .ok (.istore_n 3, 1) := by decide +kernel
theorem dX6_playOut_49 : decode cX6_playOut 49 = .ok (.iconst 0, 1) := by decide +kernel
theorem dX6_playOut_50 : decode cX6_playOut 50 = .ok (.istore 4, 2) := by decide +kernel
theorem dX6_playOut_52 : decode cX6_playOut 52 = .ok (.iload 4, 2) := by decide +kernel
theorem dX6_playOut_54 : decode cX6_playOut 54 = .ok (.bipush 6, 2) := by decide +kernel
theorem dX6_playOut_56 : decode cX6_playOut 56 = .ok (.if_icmp .ge 98, 3) := by decide +kernel
theorem dX6_playOut_59 : decode cX6_playOut 59 = .ok (.aload_n 0, 1) := by decide +kernel
theorem dX6_playOut_60 : decode cX6_playOut 60 = .ok (.getfield 21, 3) := by decide +kernel
theorem dX6_playOut_63 : decode cX6_playOut 63 = .ok (.iload 4, 2) := by decide +kernel
theorem dX6_playOut_65 : decode cX6_playOut 65 = .ok (.iaload, 1) := by decide +kernel
theorem dX6_playOut_66 : decode cX6_playOut 66 = .ok (.ifCond .le 82, 3) := by decide +kernel
theorem dX6_playOut_69 : decode cX6_playOut 69 = .ok (.aload_n 0, 1) := by decide +kernel
theorem dX6_playOut_70 : decode cX6_playOut 70 = .ok (.getfield 15, 3) := by decide +kernel
theorem dX6_playOut_73 : decode cX6_playOut 73 = .ok (.iconst 0, 1) := by decide +kernel
theorem dX6_playOut_74 : decode cX6_playOut 74 = .ok (.iaload, 1) := by decide +kernel
theorem dX6_playOut_75 : decode cX6_playOut 75 = .ok (.ifCond .le 73, 3) := by decide +kernel
theorem dX6_playOut_78 : decode cX6_playOut 78 = .ok (.aload_n 0, 1) := by decide +kernel
theorem dX6_playOut_79 : decode cX6_playOut 79 = .ok (.iload 4, 2) := by decide +kernel
theorem dX6_playOut_81 : decode cX6_playOut 81 = .ok (.iload_n 1, 1) := by decide +kernel
theorem dX6_playOut_82 : decode cX6_playOut 82 = .ok (.iconst 0, 1) := by decide +kernel
theorem dX6_playOut_83 : decode cX6_playOut 83 = .ok (.invokevirtual 70, 3) := by decide +kernel
theorem dX6_playOut_86 : decode cX6_playOut 86 = .ok (.istore 5, 2) := by decide +kernel
theorem dX6_playOut_88 : decode cX6_playOut 88 = .ok (.aload_n 0, 1) := by decide +kernel
theorem dX6_playOut_89 : decode cX6_playOut 89 = .ok (.getfield 63, 3) := by decide +kernel
theorem dX6_playOut_92 : decode cX6_playOut 92 = .ok (.iconst (-1), 1) := by decide +kernel
theorem dX6_playOut_93 : decode cX6_playOut 93 = .ok (.if_icmp .eq 21, 3) := by decide +kernel
theorem dX6_playOut_96 : decode cX6_playOut 96 = .ok (.aload_n 0, 1) := by decide +kernel
theorem dX6_playOut_97 : decode cX6_playOut 97 = .ok (.getfield 24, 3) := by decide +kernel
theorem dX6_playOut_100 : decode cX6_playOut 100 = .ok (.iload 4, 2) := by decide +kernel
theorem dX6_playOut_102 : decode cX6_playOut 102 = .ok (.iaload, 1) := by decide +kernel
theorem dX6_playOut_103 : decode cX6_playOut 103 = .ok (.aload_n 0, 1) := by decide +kernel
theorem dX6_playOut_104 : decode cX6_playOut 104 = .ok (.getfield 63, 3) := by decide +kernel
theorem dX6_playOut_107 : decode cX6_playOut 107 = .ok (.if_icmp .ge 7, 3) := by decide +kernel
theorem dX6_playOut_110 : decode cX6_playOut 110 = .ok (.iconst 1, 1) := by decide +kernel
theorem dX6_playOut_111 : decode cX6_playOut 111 = .ok (.goto 4, 3) := by decide +kernel
theorem dX6_playOut_114 : decode cX6_playOut 114 = .ok (.iconst 0, 1) := by decide +kernel
theorem dX6_playOut_115 : decode cX6_playOut 115 = .ok (.istore 6, 2) := by decide +kernel
theorem dX6_playOut_117 : decode cX6_playOut 117 = .ok (.iload 5, 2) := by decide +kernel
theorem dX6_playOut_119 : decode cX6_playOut 119 = .ok (.iload_n 3, 1) := by decide +kernel
theorem dX6_playOut_120 : decode cX6_playOut 120 = .ok (.if_icmp .gt 14, 3) := by decide +kernel
theorem dX6_playOut_123 : decode cX6_playOut 123 = .ok (.iload 5, 2) := by decide +kernel
theorem dX6_playOut_125 : decode cX6_playOut 125 = .ok (.iload_n 3, 1) := by decide +kernel
theorem dX6_playOut_126 : decode cX6_playOut 126 = .ok (.if_icmp .ne 22, 3) := by decide +kernel
theorem dX6_playOut_129 : decode cX6_playOut 129 = .ok (.iload 6, 2) := by decide +kernel
theorem dX6_playOut_131 : decode cX6_playOut 131 = .ok (.ifCond .eq 17, 3) := by decide +kernel
theorem dX6_playOut_134 : decode cX6_playOut 134 = .ok (.iload 5, 2) := by decide +kernel
theorem dX6_playOut_136 : decode cX6_playOut 136 = .ok (.istore_n 3, 1) := by decide +kernel
theorem dX6_playOut_137 : decode cX6_playOut 137 = .ok (.aload_n 0, 1) := by decide +kernel
theorem dX6_playOut_138 : decode cX6_playOut 138 = .ok (.aload_n 0, 1) := by decide +kernel
theorem dX6_playOut_139 : decode cX6_playOut 139 = .ok (.getfield 24, 3) := by decide +kernel
theorem dX6_playOut_142 : decode cX6_playOut 142 = .ok (.iload 4, 2) := by decide +kernel
theorem dX6_playOut_144 : decode cX6_playOut 144 = .ok (.iaload, 1) := by decide +kernel
theorem dX6_playOut_145 : decode cX6_playOut 145 = .ok (.putfield 63, 3) := by decide +kernel
theorem dX6_playOut_148 : decode cX6_playOut 148 = .ok (.iinc 4 1, 3) := by decide +kernel
theorem dX6_playOut_151 : decode cX6_playOut 151 = .ok (.goto (-99), 3) := by decide +kernel
theorem dX6_playOut_154 : decode cX6_playOut 154 = .ok (.iload_n 2, 1) := by decide +kernel
theorem dX6_playOut_155 : decode cX6_playOut 155 = .ok (.iload_n 3, 1) := by decide +kernel
theorem dX6_playOut_156 : decode cX6_playOut 156 = .ok (.iadd, 1) := by decide +kernel
theorem dX6_playOut_157 : decode cX6_playOut 157 = .ok (.ireturn, 1) := by decide +kernel
theorem dX6_bestOf_0 : decode cX6_bestOf 0 = .ok (.iload_n 1, 1) := by decide +kernel
theorem dX6_bestOf_1 : decode cX6_bestOf 1 = .ok (.ifCond .gt 5, 3) := by decide +kernel
theorem dX6_bestOf_4 : decode cX6_bestOf 4 = .ok (.iconst 0, 1) := by decide +kernel
theorem dX6_bestOf_5 : decode cX6_bestOf 5 = .ok (.ireturn, 1) := by decide +kernel
theorem dX6_bestOf_6 : decode cX6_bestOf 6 = .ok (.aload_n 0, 1) := by decide +kernel
theorem dX6_bestOf_7 : decode cX6_bestOf 7 = .ok (.iload_n 1, 1) := by decide +kernel
theorem dX6_bestOf_8 : decode cX6_bestOf 8 = .ok (.iconst 1, 1) := by decide +kernel
theorem dX6_bestOf_9 : decode cX6_bestOf 9 = .ok (.isub, 1) := by decide +kernel
theorem dX6_bestOf_10 : decode cX6_bestOf 10 = .ok (.iconst 1, 1) := by decide +kernel
theorem dX6_bestOf_11 : decode cX6_bestOf 11 = .ok (.iload_n 2, 1) := by decide +kernel
theorem dX6_bestOf_12 : decode cX6_bestOf 12 = .ok (.isub, 1) := by decide +kernel
theorem dX6_bestOf_13 : decode cX6_bestOf 13 = .ok (.invokevirtual 66, 3) := by decide +kernel
theorem dX6_bestOf_16 : decode cX6_bestOf 16 = .ok (.ineg, 1) := by decide +kernel
theorem dX6_bestOf_17 : decode cX6_bestOf 17 = .ok (.istore_n 3, 1) := by decide +kernel
theorem dX6_bestOf_18 : decode cX6_bestOf 18 = .ok (.iconst 0, 1) := by decide +kernel
theorem dX6_bestOf_19 : decode cX6_bestOf 19 = .ok (.istore 4, 2) := by decide +kernel
theorem dX6_bestOf_21 : decode cX6_bestOf 21 = .ok (.iload 4, 2) := by decide +kernel
theorem dX6_bestOf_23 : decode cX6_bestOf 23 = .ok (.bipush 6, 2) := by decide +kernel
theorem dX6_bestOf_25 : decode cX6_bestOf 25 = .ok (.if_icmp .ge 41, 3) := by decide +kernel
theorem dX6_bestOf_28 : decode cX6_bestOf 28 = .ok (.aload_n 0, 1) := by decide +kernel
theorem dX6_bestOf_29 : decode cX6_bestOf 29 = .ok (.getfield 21, 3) := by decide +kernel
theorem dX6_bestOf_32 : decode cX6_bestOf 32 = .ok (.iload 4, 2) := by decide +kernel
theorem dX6_bestOf_34 : decode cX6_bestOf 34 = .ok (.iaload, 1) := by decide +kernel
theorem dX6_bestOf_35 : decode cX6_bestOf 35 = .ok (.ifCond .le 25, 3) := by decide +kernel
theorem dX6_bestOf_38 : decode cX6_bestOf 38 = .ok (.aload_n 0, 1) := by decide +kernel
theorem dX6_bestOf_39 : decode cX6_bestOf 39 = .ok (.getfield 15, 3) := by decide +kernel
theorem dX6_bestOf_42 : decode cX6_bestOf 42 = .ok (.iload_n 2, 1) := by decide +kernel
theorem dX6_bestOf_43 : decode cX6_bestOf 43 = .ok (.iaload, 1) := by decide +kernel
theorem dX6_bestOf_44 : decode cX6_bestOf 44 = .ok (.ifCond .le 16, 3) := by decide +kernel
theorem dX6_bestOf_47 : decode cX6_bestOf 47 = .ok (.iload_n 3, 1) := by decide +kernel
theorem dX6_bestOf_48 : decode cX6_bestOf 48 = .ok (.aload_n 0, 1) := by decide +kernel
theorem dX6_bestOf_49 : decode cX6_bestOf 49 = .ok (.iload 4, 2) := by decide +kernel
theorem dX6_bestOf_51 : decode cX6_bestOf 51 = .ok (.iload_n 1, 1) := by decide +kernel
theorem dX6_bestOf_52 : decode cX6_bestOf 52 = .ok (.iload_n 2, 1) := by decide +kernel
theorem dX6_bestOf_53 : decode cX6_bestOf 53 = .ok (.invokevirtual 70, 3) := by decide +kernel
theorem dX6_bestOf_56 : decode cX6_bestOf 56 = .ok (.invokestatic 74, 3) := by decide +kernel
theorem dX6_bestOf_59 : decode cX6_bestOf 59 = .ok (.istore_n 3, 1) := by decide +kernel
theorem dX6_bestOf_60 : decode cX6_bestOf 60 = .ok (.iinc 4 1, 3) := by decide +kernel
theorem dX6_bestOf_63 : decode cX6_bestOf 63 = .ok (.goto (-42), 3) := by decide +kernel
theorem dX6_bestOf_66 : decode cX6_bestOf 66 = .ok (.iload_n 3, 1) := by decide +kernel
theorem dX6_bestOf_67 : decode cX6_bestOf 67 = .ok (.ireturn, 1) := by decide +kernel
theorem dX6_valueOfTaking_0 : decode cX6_valueOfTaking 0 = .ok (.aload_n 0, 1) := by decide +kernel
theorem dX6_valueOfTaking_1 : decode cX6_valueOfTaking 1 = .ok (.getfield 18, 3) := by decide +kernel
theorem dX6_valueOfTaking_4 : decode cX6_valueOfTaking 4 = .ok (.iload_n 3, 1) := by decide +kernel
theorem dX6_valueOfTaking_5 : decode cX6_valueOfTaking 5 = .ok (.iaload, 1) := by decide +kernel
theorem dX6_valueOfTaking_6 : decode cX6_valueOfTaking 6 = .ok (.istore 4, 2) := by decide +kernel
theorem dX6_valueOfTaking_8 : decode cX6_valueOfTaking 8 = .ok (.iload 4, 2) := by decide +kernel
theorem dX6_valueOfTaking_10 : decode cX6_valueOfTaking 10 = .ok (.iload_n 1, 1) := by decide +kernel
theorem dX6_valueOfTaking_11 : decode cX6_valueOfTaking 11 = .ok (.ishr, 1) := by decide +kernel
theorem dX6_valueOfTaking_12 : decode cX6_valueOfTaking 12 = .ok (.iconst 1, 1) := by decide +kernel
theorem dX6_valueOfTaking_13 : decode cX6_valueOfTaking 13 = .ok (.iand, 1) := by decide +kernel
theorem dX6_valueOfTaking_14 : decode cX6_valueOfTaking 14 = .ok (.ifCond .ne 23, 3) := by decide +kernel
theorem dX6_valueOfTaking_17 : decode cX6_valueOfTaking 17 = .ok (.aload_n 0, 1) := by decide +kernel
theorem dX6_valueOfTaking_18 : decode cX6_valueOfTaking 18 = .ok (.getfield 27, 3) := by decide +kernel
theorem dX6_valueOfTaking_21 : decode cX6_valueOfTaking 21 = .ok (.getfield 79, 3) := by decide +kernel
theorem dX6_valueOfTaking_24 : decode cX6_valueOfTaking 24 = .ok (.aload_n 0, 1) := by decide +kernel
theorem dX6_valueOfTaking_25 : decode cX6_valueOfTaking 25 = .ok (.getfield 9, 3) := by decide +kernel
theorem dX6_valueOfTaking_28 : decode cX6_valueOfTaking 28 = .ok (.iload_n 3, 1) := by decide +kernel
theorem dX6_valueOfTaking_29 : decode cX6_valueOfTaking 29 = .ok (.iaload, 1) := by decide +kernel
theorem dX6_valueOfTaking_30 : decode cX6_valueOfTaking 30 = .ok (.iload_n 1, 1) := by decide +kernel
theorem dX6_valueOfTaking_31 : decode cX6_valueOfTaking 31 = .ok (.invokevirtual 83, 3) := by decide +kernel
theorem dX6_valueOfTaking_34 : decode cX6_valueOfTaking 34 = .ok (.goto 4, 3) := by decide +kernel
theorem dX6_valueOfTaking_37 : decode cX6_valueOfTaking 37 = .ok (.iconst 0, 1) := by decide +kernel
theorem dX6_valueOfTaking_38 : decode cX6_valueOfTaking 38 = .ok (.istore 5, 2) := by decide +kernel
theorem dX6_valueOfTaking_40 : decode cX6_valueOfTaking 40 = .ok (.aload_n 0, 1) := by decide +kernel
theorem dX6_valueOfTaking_41 : decode cX6_valueOfTaking 41 = .ok (.getfield 18, 3) := by decide +kernel
theorem dX6_valueOfTaking_44 : decode cX6_valueOfTaking 44 = .ok (.iload_n 3, 1) := by decide +kernel
theorem dX6_valueOfTaking_45 : decode cX6_valueOfTaking 45 = .ok (.iload 4, 2) := by decide +kernel
theorem dX6_valueOfTaking_47 : decode cX6_valueOfTaking 47 = .ok (.iconst 1, 1) := by decide +kernel
theorem dX6_valueOfTaking_48 : decode cX6_valueOfTaking 48 = .ok (.iload_n 1, 1) := by decide +kernel
theorem dX6_valueOfTaking_49 : decode cX6_valueOfTaking 49 = .ok (.ishl, 1) := by decide +kernel
theorem dX6_valueOfTaking_50 : decode cX6_valueOfTaking 50 = .ok (.ior, 1) := by decide +kernel
theorem dX6_valueOfTaking_51 : decode cX6_valueOfTaking 51 = .ok (.iastore, 1) := by decide +kernel
theorem dX6_valueOfTaking_52 : decode cX6_valueOfTaking 52 = .ok (.aload_n 0, 1) := by decide +kernel
theorem dX6_valueOfTaking_53 : decode cX6_valueOfTaking 53 = .ok (.getfield 15, 3) := by decide +kernel
theorem dX6_valueOfTaking_56 : decode cX6_valueOfTaking 56 = .ok (.iload_n 3, 1) := by decide +kernel
theorem dX6_valueOfTaking_57 : decode cX6_valueOfTaking 57 = .ok (.dup2, 1) := by decide +kernel
theorem dX6_valueOfTaking_58 : decode cX6_valueOfTaking 58 = .ok (.iaload, 1) := by decide +kernel
theorem dX6_valueOfTaking_59 : decode cX6_valueOfTaking 59 = .ok (.iconst 1, 1) := by decide +kernel
theorem dX6_valueOfTaking_60 : decode cX6_valueOfTaking 60 = .ok (.isub, 1) := by decide +kernel
theorem dX6_valueOfTaking_61 : decode cX6_valueOfTaking 61 = .ok (.iastore, 1) := by decide +kernel
theorem dX6_valueOfTaking_62 : decode cX6_valueOfTaking 62 = .ok (.aload_n 0, 1) := by decide +kernel
theorem dX6_valueOfTaking_63 : decode cX6_valueOfTaking 63 = .ok (.getfield 21, 3) := by decide +kernel
theorem dX6_valueOfTaking_66 : decode cX6_valueOfTaking 66 = .ok (.iload_n 1, 1) := by decide +kernel
theorem dX6_valueOfTaking_67 : decode cX6_valueOfTaking 67 = .ok (.dup2, 1) := by decide +kernel
theorem dX6_valueOfTaking_68 : decode cX6_valueOfTaking 68 = .ok (.iaload, 1) := by decide +kernel
theorem dX6_valueOfTaking_69 : decode cX6_valueOfTaking 69 = .ok (.iconst 1, 1) := by decide +kernel
theorem dX6_valueOfTaking_70 : decode cX6_valueOfTaking 70 = .ok (.isub, 1) := by decide +kernel
theorem dX6_valueOfTaking_71 : decode cX6_valueOfTaking 71 = .ok (.iastore, 1) := by decide +kernel
theorem dX6_valueOfTaking_72 : decode cX6_valueOfTaking 72 = .ok (.iload 5, 2) := by decide +kernel
theorem dX6_valueOfTaking_74 : decode cX6_valueOfTaking 74 = .ok (.aload_n 0, 1) := by decide +kernel
theorem dX6_valueOfTaking_75 : decode cX6_valueOfTaking 75 = .ok (.iload_n 2, 1) := by decide +kernel
theorem dX6_valueOfTaking_76 : decode cX6_valueOfTaking 76 = .ok (.iconst 1, 1) := by decide +kernel
theorem dX6_valueOfTaking_77 : decode cX6_valueOfTaking 77 = .ok (.isub, 1) := by decide +kernel
theorem dX6_valueOfTaking_78 : decode cX6_valueOfTaking 78 = .ok (.iconst 1, 1) := by decide +kernel
theorem dX6_valueOfTaking_79 : decode cX6_valueOfTaking 79 = .ok (.iload_n 3, 1) := by decide +kernel
theorem dX6_valueOfTaking_80 : decode cX6_valueOfTaking 80 = .ok (.isub, 1) := by decide +kernel
theorem dX6_valueOfTaking_81 : decode cX6_valueOfTaking 81 = .ok (.invokevirtual 66, 3) := by decide +kernel
theorem dX6_valueOfTaking_84 : decode cX6_valueOfTaking 84 = .ok (.isub, 1) := by decide +kernel
theorem dX6_valueOfTaking_85 : decode cX6_valueOfTaking 85 = .ok (.istore 6, 2) := by decide +kernel
theorem dX6_valueOfTaking_87 : decode cX6_valueOfTaking 87 = .ok (.aload_n 0, 1) := by decide +kernel
theorem dX6_valueOfTaking_88 : decode cX6_valueOfTaking 88 = .ok (.getfield 21, 3) := by decide +kernel
theorem dX6_valueOfTaking_91 : decode cX6_valueOfTaking 91 = .ok (.iload_n 1, 1) := by decide +kernel
theorem dX6_valueOfTaking_92 : decode cX6_valueOfTaking 92 = .ok (.dup2, 1) := by decide +kernel
theorem dX6_valueOfTaking_93 : decode cX6_valueOfTaking 93 = .ok (.iaload, 1) := by decide +kernel
theorem dX6_valueOfTaking_94 : decode cX6_valueOfTaking 94 = .ok (.iconst 1, 1) := by decide +kernel
theorem dX6_valueOfTaking_95 : decode cX6_valueOfTaking 95 = .ok (.iadd, 1) := by decide +kernel
theorem dX6_valueOfTaking_96 : decode cX6_valueOfTaking 96 = .ok (.iastore, 1) := by decide +kernel
theorem dX6_valueOfTaking_97 : decode cX6_valueOfTaking 97 = .ok (.aload_n 0, 1) := by decide +kernel
theorem dX6_valueOfTaking_98 : decode cX6_valueOfTaking 98 = .ok (.getfield 15, 3) := by decide +kernel
theorem dX6_valueOfTaking_101 : decode cX6_valueOfTaking 101 = .ok (.iload_n 3, 1) := by decide +kernel
theorem dX6_valueOfTaking_102 : decode cX6_valueOfTaking 102 = .ok (.dup2, 1) := by decide +kernel
theorem dX6_valueOfTaking_103 : decode cX6_valueOfTaking 103 = .ok (.iaload, 1) := by decide +kernel
theorem dX6_valueOfTaking_104 : decode cX6_valueOfTaking 104 = .ok (.iconst 1, 1) := by decide +kernel
theorem dX6_valueOfTaking_105 : decode cX6_valueOfTaking 105 = .ok (.iadd, 1) := by decide +kernel
theorem dX6_valueOfTaking_106 : decode cX6_valueOfTaking 106 = .ok (.iastore, 1) := by decide +kernel
theorem dX6_valueOfTaking_107 : decode cX6_valueOfTaking 107 = .ok (.aload_n 0, 1) := by decide +kernel
theorem dX6_valueOfTaking_108 : decode cX6_valueOfTaking 108 = .ok (.getfield 18, 3) := by decide +kernel
theorem dX6_valueOfTaking_111 : decode cX6_valueOfTaking 111 = .ok (.iload_n 3, 1) := by decide +kernel
theorem dX6_valueOfTaking_112 : decode cX6_valueOfTaking 112 = .ok (.iload 4, 2) := by decide +kernel
theorem dX6_valueOfTaking_114 : decode cX6_valueOfTaking 114 = .ok (.iastore, 1) := by decide +kernel
theorem dX6_valueOfTaking_115 : decode cX6_valueOfTaking 115 = .ok (.iload 6, 2) := by decide +kernel
theorem dX6_valueOfTaking_117 : decode cX6_valueOfTaking 117 = .ok (.ireturn, 1) := by decide +kernel
theorem dX7_init_0 : decode cX7_init 0 = .ok (.aload_n 0, 1) := by decide +kernel
theorem dX7_init_1 : decode cX7_init 1 = .ok (.invokespecial 3, 3) := by decide +kernel
theorem dX7_init_4 : decode cX7_init 4 = .ok (.aload_n 0, 1) := by decide +kernel
theorem dX7_init_5 : decode cX7_init 5 = .ok (.sipush 400, 3) := by decide +kernel
theorem dX7_init_8 : decode cX7_init 8 = .ok (.newarray .char, 2) := by decide +kernel
theorem dX7_init_10 : decode cX7_init 10 = .ok (.putfield 9, 3) := by decide +kernel
theorem dX7_init_13 : decode cX7_init 13 = .ok (.aload_n 0, 1) := by decide +kernel
theorem dX7_init_14 : decode cX7_init 14 = .ok (.iconst (-1), 1) := by decide +kernel
theorem dX7_init_15 : decode cX7_init 15 = .ok (.putfield 13, 3) := by decide +kernel
theorem dX7_init_18 : decode cX7_init 18 = .ok (.aload_n 0, 1) := by decide +kernel
theorem dX7_init_19 : decode cX7_init 19 = .ok (.new 17, 3) := by decide +kernel
theorem dX7_init_22 : decode cX7_init 22 = .ok (.dup, 1) := by decide +kernel
theorem dX7_init_23 : decode cX7_init 23 = .ok (.invokespecial 19, 3) := by decide +kernel
theorem dX7_init_26 : decode cX7_init 26 = .ok (.putfield 20, 3) := by decide +kernel
theorem dX7_init_29 : decode cX7_init 29 = .ok (.aload_n 0, 1) := by decide +kernel
theorem dX7_init_30 : decode cX7_init 30 = .ok (.new 17, 3) := by decide +kernel
theorem dX7_init_33 : decode cX7_init 33 = .ok (.dup, 1) := by decide +kernel
theorem dX7_init_34 : decode cX7_init 34 = .ok (.invokespecial 19, 3) := by decide +kernel
theorem dX7_init_37 : decode cX7_init 37 = .ok (.putfield 24, 3) := by decide +kernel
theorem dX7_init_40 : decode cX7_init 40 = .ok (.aload_n 0, 1) := by decide +kernel
theorem dX7_init_41 : decode cX7_init 41 = .ok (.new 27, 3) := by decide +kernel
theorem dX7_init_44 : decode cX7_init 44 = .ok (.dup, 1) := by decide +kernel
theorem dX7_init_45 : decode cX7_init 45 = .ok (.aload_n 0, 1) := by decide +kernel
theorem dX7_init_46 : decode cX7_init 46 = .ok (.getfield 9, 3) := by decide +kernel
theorem dX7_init_49 : decode cX7_init 49 = .ok (.aload_n 0, 1) := by decide +kernel
theorem dX7_init_50 : decode cX7_init 50 = .ok (.getfield 24, 3) := by decide +kernel
theorem dX7_init_53 : decode cX7_init 53 = .ok (.invokespecial 29, 3) := by decide +kernel
theorem dX7_init_56 : decode cX7_init 56 = .ok (.putfield 32, 3) := by decide +kernel
theorem dX7_init_59 : decode cX7_init 59 = .ok (.aload_n 0, 1) := by decide +kernel
theorem dX7_init_60 : decode cX7_init 60 = .ok (.new 36, 3) := by decide +kernel
theorem dX7_init_63 : decode cX7_init 63 = .ok (.dup, 1) := by decide +kernel
theorem dX7_init_64 : decode cX7_init 64 = .ok (.aload_n 0, 1) := by decide +kernel
theorem dX7_init_65 : decode cX7_init 65 = .ok (.getfield 20, 3) := by decide +kernel
theorem dX7_init_68 : decode cX7_init 68 = .ok (.invokespecial 38, 3) := by decide +kernel
theorem dX7_init_71 : decode cX7_init 71 = .ok (.putfield 41, 3) := by decide +kernel
theorem dX7_init_74 : decode cX7_init 74 = .ok (.aload_n 0, 1) := by decide +kernel
theorem dX7_init_75 : decode cX7_init 75 = .ok (.new 36, 3) := by decide +kernel
theorem dX7_init_78 : decode cX7_init 78 = .ok (.dup, 1) := by decide +kernel
theorem dX7_init_79 : decode cX7_init 79 = .ok (.aload_n 0, 1) := by decide +kernel
theorem dX7_init_80 : decode cX7_init 80 = .ok (.getfield 20, 3) := by decide +kernel
theorem dX7_init_83 : decode cX7_init 83 = .ok (.invokespecial 38, 3) := by decide +kernel
theorem dX7_init_86 : decode cX7_init 86 = .ok (.putfield 45, 3) := by decide +kernel
theorem dX7_init_89 : decode cX7_init 89 = .ok (.aload_n 0, 1) := by decide +kernel
theorem dX7_init_90 : decode cX7_init 90 = .ok (.iconst 2, 1) := by decide +kernel
theorem dX7_init_91 : decode cX7_init 91 = .ok (.anewarray 36, 3) := by decide +kernel
theorem dX7_init_94 : decode cX7_init 94 = .ok (.dup, 1) := by decide +kernel
theorem dX7_init_95 : decode cX7_init 95 = .ok (.iconst 0, 1) := by decide +kernel
theorem dX7_init_96 : decode cX7_init 96 = .ok (.new 36, 3) := by decide +kernel
theorem dX7_init_99 : decode cX7_init 99 = .ok (.dup, 1) := by decide +kernel
theorem dX7_init_100 : decode cX7_init 100 = .ok (.aload_n 0, 1) := by decide +kernel
theorem dX7_init_101 : decode cX7_init 101 = .ok (.getfield 20, 3) := by decide +kernel
theorem dX7_init_104 : decode cX7_init 104 = .ok (.invokespecial 38, 3) := by decide +kernel
theorem dX7_init_107 : decode cX7_init 107 = .ok (.aastore, 1) := by decide +kernel
theorem dX7_init_108 : decode cX7_init 108 = .ok (.dup, 1) := by decide +kernel
theorem dX7_init_109 : decode cX7_init 109 = .ok (.iconst 1, 1) := by decide +kernel
theorem dX7_init_110 : decode cX7_init 110 = .ok (.new 36, 3) := by decide +kernel
theorem dX7_init_113 : decode cX7_init 113 = .ok (.dup, 1) := by decide +kernel
theorem dX7_init_114 : decode cX7_init 114 = .ok (.aload_n 0, 1) := by decide +kernel
theorem dX7_init_115 : decode cX7_init 115 = .ok (.getfield 20, 3) := by decide +kernel
theorem dX7_init_118 : decode cX7_init 118 = .ok (.invokespecial 38, 3) := by decide +kernel
theorem dX7_init_121 : decode cX7_init 121 = .ok (.aastore, 1) := by decide +kernel
theorem dX7_init_122 : decode cX7_init 122 = .ok (.putfield 48, 3) := by decide +kernel
theorem dX7_init_125 : decode cX7_init 125 = .ok (.aload_n 0, 1) := by decide +kernel
theorem dX7_init_126 : decode cX7_init 126 = .ok (.iconst 2, 1) := by decide +kernel
theorem dX7_init_127 : decode cX7_init 127 = .ok (.newarray .boolean, 2) := by decide +kernel
theorem dX7_init_129 : decode cX7_init 129 = .ok (.putfield 52, 3) := by decide +kernel
theorem dX7_init_132 : decode cX7_init 132 = .ok (.aload_n 0, 1) := by decide +kernel
theorem dX7_init_133 : decode cX7_init 133 = .ok (.new 56, 3) := by decide +kernel
theorem dX7_init_136 : decode cX7_init 136 = .ok (.dup, 1) := by decide +kernel
theorem dX7_init_137 : decode cX7_init 137 = .ok (.invokespecial 58, 3) := by decide +kernel
theorem dX7_init_140 : decode cX7_init 140 = .ok (.putfield 59, 3) := by decide +kernel
theorem dX7_init_143 : decode cX7_init 143 = .ok (.aload_n 0, 1) := by decide +kernel
theorem dX7_init_144 : decode cX7_init 144 = .ok (.new 63, 3) := by decide +kernel
theorem dX7_init_147 : decode cX7_init 147 = .ok (.dup, 1) := by decide +kernel
theorem dX7_init_148 : decode cX7_init 148 = .ok (.aload_n 0, 1) := by decide +kernel
theorem dX7_init_149 : decode cX7_init 149 = .ok (.getfield 41, 3) := by decide +kernel
theorem dX7_init_152 : decode cX7_init 152 = .ok (.invokespecial 65, 3) := by decide +kernel
theorem dX7_init_155 : decode cX7_init 155 = .ok (.putfield 68, 3) := by decide +kernel
theorem dX7_init_158 : decode cX7_init 158 = .ok (.aload_n 0, 1) := by decide +kernel
theorem dX7_init_159 : decode cX7_init 159 = .ok (.new 72, 3) := by decide +kernel
theorem dX7_init_162 : decode cX7_init 162 = .ok (.dup, 1) := by decide +kernel
theorem dX7_init_163 : decode cX7_init 163 = .ok (.aload_n 0, 1) := by decide +kernel
theorem dX7_init_164 : decode cX7_init 164 = .ok (.getfield 41, 3) := by decide +kernel
theorem dX7_init_167 : decode cX7_init 167 = .ok (.invokespecial 74, 3) := by decide +kernel
theorem dX7_init_170 : decode cX7_init 170 = .ok (.putfield 75, 3) := by decide +kernel
theorem dX7_init_173 : decode cX7_init 173 = .ok (.aload_n 0, 1) := by decide +kernel
theorem dX7_init_174 : decode cX7_init 174 = .ok (.new 79, 3) := by decide +kernel
theorem dX7_init_177 : decode cX7_init 177 = .ok (.dup, 1) := by decide +kernel
theorem dX7_init_178 : decode cX7_init 178 = .ok (.aload_n 0, 1) := by decide +kernel
theorem dX7_init_179 : decode cX7_init 179 = .ok (.getfield 41, 3) := by decide +kernel
theorem dX7_init_182 : decode cX7_init 182 = .ok (.invokespecial 81, 3) := by decide +kernel
theorem dX7_init_185 : decode cX7_init 185 = .ok (.putfield 82, 3) := by decide +kernel
theorem dX7_init_188 : decode cX7_init 188 = .ok (.aload_n 0, 1) := by decide +kernel
theorem dX7_init_189 : decode cX7_init 189 = .ok (.iconst 5, 1) := by decide +kernel
theorem dX7_init_190 : decode cX7_init 190 = .ok (.newarray .int, 2) := by decide +kernel
theorem dX7_init_192 : decode cX7_init 192 = .ok (.putfield 86, 3) := by decide +kernel
theorem dX7_init_195 : decode cX7_init 195 = .ok (.return_, 1) := by decide +kernel
theorem dX7_feed_0 : decode cX7_feed 0 = .ok (.iload_n 1, 1) := by decide +kernel
theorem dX7_feed_1 : decode cX7_feed 1 = .ok (.iconst 1, 1) := by decide +kernel
theorem dX7_feed_2 : decode cX7_feed 2 = .ok (.if_icmp .lt 9, 3) := by decide +kernel
theorem dX7_feed_5 : decode cX7_feed 5 = .ok (.iload_n 1, 1) := by decide +kernel
theorem dX7_feed_6 : decode cX7_feed 6 = .ok (.bipush 8, 2) := by decide +kernel
theorem dX7_feed_8 : decode cX7_feed 8 = .ok (.if_icmp .le 6, 3) := by decide +kernel
theorem dX7_feed_11 : decode cX7_feed 11 = .ok (.ldc 90, 2) := by decide +kernel
theorem dX7_feed_13 : decode cX7_feed 13 = .ok (.ireturn, 1) := by decide +kernel
theorem dX7_feed_14 : decode cX7_feed 14 = .ok (.aload_n 0, 1) := by decide +kernel
theorem dX7_feed_15 : decode cX7_feed 15 = .ok (.getfield 91, 3) := by decide +kernel
theorem dX7_feed_18 : decode cX7_feed 18 = .ok (.iload_n 1, 1) := by decide +kernel
theorem dX7_feed_19 : decode cX7_feed 19 = .ok (.iadd, 1) := by decide +kernel
theorem dX7_feed_20 : decode cX7_feed 20 = .ok (.sipush 400, 3) := by decide +kernel
theorem dX7_feed_23 : decode cX7_feed 23 = .ok (.if_icmp .le 6, 3) := by decide +kernel
theorem dX7_feed_26 : decode cX7_feed 26 = .ok (.ldc 94, 2) := by decide +kernel
theorem dX7_feed_28 : decode cX7_feed 28 = .ok (.ireturn, 1) := by decide +kernel
theorem dX7_feed_29 : decode cX7_feed 29 = .ok (.iload_n 1, 1) := by decide +kernel
theorem dX7_feed_30 : decode cX7_feed 30 = .ok (.iconst 1, 1) := by decide +kernel
theorem dX7_feed_31 : decode cX7_feed 31 = .ok (.isub, 1) := by decide +kernel
theorem dX7_feed_32 : decode cX7_feed 32 = .ok (.istore 4, 2) := by decide +kernel
theorem dX7_feed_34 : decode cX7_feed 34 = .ok (.iload 4, 2) := by decide +kernel
theorem dX7_feed_36 : decode cX7_feed 36 = .ok (.ifCond .lt 41, 3) := by decide +kernel
theorem dX7_feed_39 : decode cX7_feed 39 = .ok (.aload_n 0, 1) := by decide +kernel
theorem dX7_feed_40 : decode cX7_feed 40 = .ok (.getfield 9, 3) := by decide +kernel
theorem dX7_feed_43 : decode cX7_feed 43 = .ok (.aload_n 0, 1) := by decide +kernel
theorem dX7_feed_44 : decode cX7_feed 44 = .ok (.getfield 91, 3) := by decide +kernel
theorem dX7_feed_47 : decode cX7_feed 47 = .ok (.lload_n 2, 1) := by decide +kernel
theorem dX7_feed_48 : decode cX7_feed 48 = .ok (.bipush 8, 2) := by decide +kernel
theorem dX7_feed_50 : decode cX7_feed 50 = .ok (.iload 4, 2) := by decide +kernel
theorem dX7_feed_52 : decode cX7_feed 52 = .ok (.imul, 1) := by decide +kernel
theorem dX7_feed_53 : decode cX7_feed 53 = .ok (.lshr, 1) := by decide +kernel
theorem dX7_feed_54 : decode cX7_feed 54 = .ok (.ldc2_w 95, 3) := by decide +kernel
theorem dX7_feed_57 : decode cX7_feed 57 = .ok (.land, 1) := by decide +kernel
theorem dX7_feed_58 : decode cX7_feed 58 = .ok (.l2i, 1) := by decide +kernel
theorem dX7_feed_59 : decode cX7_feed 59 = .ok (.i2c, 1) := by decide +kernel
theorem dX7_feed_60 : decode cX7_feed 60 = .ok (.castore, 1) := by decide +kernel
theorem dX7_feed_61 : decode cX7_feed 61 = .ok (.aload_n 0, 1) := by decide +kernel
theorem dX7_feed_62 : decode cX7_feed 62 = .ok (.dup, 1) := by decide +kernel
theorem dX7_feed_63 : decode cX7_feed 63 = .ok (.getfield 91, 3) := by decide +kernel
theorem dX7_feed_66 : decode cX7_feed 66 = .ok (.iconst 1, 1) := by decide +kernel
theorem dX7_feed_67 : decode cX7_feed 67 = .ok (.iadd, 1) := by decide +kernel
theorem dX7_feed_68 : decode cX7_feed 68 = .ok (.putfield 91, 3) := by decide +kernel
theorem dX7_feed_71 : decode cX7_feed 71 = .ok (.iinc 4 (-1), 3) := by decide +kernel
theorem dX7_feed_74 : decode cX7_feed 74 = .ok (.goto (-40), 3) := by decide +kernel
theorem dX7_feed_77 : decode cX7_feed 77 = .ok (.aload_n 0, 1) := by decide +kernel
theorem dX7_feed_78 : decode cX7_feed 78 = .ok (.getfield 91, 3) := by decide +kernel
theorem dX7_feed_81 : decode cX7_feed 81 = .ok (.ireturn, 1) := by decide +kernel
theorem dX7_spit_0 : decode cX7_spit 0 = .ok (.aload_n 0, 1) := by decide +kernel
theorem dX7_spit_1 : decode cX7_spit 1 = .ok (.getfield 32, 3) := by decide +kernel
theorem dX7_spit_4 : decode cX7_spit 4 = .ok (.aload_n 0, 1) := by decide +kernel
theorem dX7_spit_5 : decode cX7_spit 5 = .ok (.getfield 91, 3) := by decide +kernel
theorem dX7_spit_8 : decode cX7_spit 8 = .ok (.invokevirtual 97, 3) := by decide +kernel
theorem dX7_spit_11 : decode cX7_spit 11 = .ok (.istore_n 1, 1) := by decide +kernel
theorem dX7_spit_12 : decode cX7_spit 12 = .ok (.aload_n 0, 1) := by decide +kernel
theorem dX7_spit_13 : decode cX7_spit 13 = .ok (.iconst 0, 1) := by decide +kernel
theorem dX7_spit_14 : decode cX7_spit 14 = .ok (.putfield 91, 3) := by decide +kernel
theorem dX7_spit_17 : decode cX7_spit 17 = .ok (.iload_n 1, 1) := by decide +kernel
theorem dX7_spit_18 : decode cX7_spit 18 = .ok (.ifCond .ne 25, 3) := by decide +kernel
theorem dX7_spit_21 : decode cX7_spit 21 = .ok (.aload_n 0, 1) := by decide +kernel
theorem dX7_spit_22 : decode cX7_spit 22 = .ok (.aload_n 0, 1) := by decide +kernel
theorem dX7_spit_23 : decode cX7_spit 23 = .ok (.getfield 32, 3) := by decide +kernel
theorem dX7_spit_26 : decode cX7_spit 26 = .ok (.getfield 101, 3) := by decide +kernel
theorem dX7_spit_29 : decode cX7_spit 29 = .ok (.putfield 13, 3) := by decide +kernel
theorem dX7_spit_32 : decode cX7_spit 32 = .ok (.bipush (-10), 2) := by decide +kernel
theorem dX7_spit_34 : decode cX7_spit 34 = .ok (.aload_n 0, 1) := by decide +kernel
theorem dX7_spit_35 : decode cX7_spit 35 = .ok (.getfield 32, 3) := by decide +kernel
theorem dX7_spit_38 : decode cX7_spit 38 = .ok (.getfield 102, 3) := by decide +kernel
theorem dX7_spit_41 : decode cX7_spit 41 = .ok (.isub, 1) := by decide +kernel
theorem dX7_spit_42 : decode cX7_spit 42 = .ok (.ireturn, 1) := by decide +kernel
theorem dX7_spit_43 : decode cX7_spit 43 = .ok (.aload_n 0, 1) := by decide +kernel
theorem dX7_spit_44 : decode cX7_spit 44 = .ok (.iconst (-1), 1) := by decide +kernel
theorem dX7_spit_45 : decode cX7_spit 45 = .ok (.putfield 13, 3) := by decide +kernel
theorem dX7_spit_48 : decode cX7_spit 48 = .ok (.aload_n 0, 1) := by decide +kernel
theorem dX7_spit_49 : decode cX7_spit 49 = .ok (.getfield 20, 3) := by decide +kernel
theorem dX7_spit_52 : decode cX7_spit 52 = .ok (.aload_n 0, 1) := by decide +kernel
theorem dX7_spit_53 : decode cX7_spit 53 = .ok (.getfield 24, 3) := by decide +kernel
theorem dX7_spit_56 : decode cX7_spit 56 = .ok (.invokevirtual 105, 3) := by decide +kernel
theorem dX7_spit_59 : decode cX7_spit 59 = .ok (.aload_n 0, 1) := by decide +kernel
theorem dX7_spit_60 : decode cX7_spit 60 = .ok (.getfield 41, 3) := by decide +kernel
theorem dX7_spit_63 : decode cX7_spit 63 = .ok (.invokevirtual 108, 3) := by decide +kernel
theorem dX7_spit_66 : decode cX7_spit 66 = .ok (.aload_n 0, 1) := by decide +kernel
theorem dX7_spit_67 : decode cX7_spit 67 = .ok (.getfield 59, 3) := by decide +kernel
theorem dX7_spit_70 : decode cX7_spit 70 = .ok (.iconst 0, 1) := by decide +kernel
theorem dX7_spit_71 : decode cX7_spit 71 = .ok (.putfield 111, 3) := by decide +kernel
theorem dX7_spit_74 : decode cX7_spit 74 = .ok (.iconst 0, 1) := by decide +kernel
theorem dX7_spit_75 : decode cX7_spit 75 = .ok (.istore_n 2, 1) := by decide +kernel
theorem dX7_spit_76 : decode cX7_spit 76 = .ok (.iload_n 2, 1) := by decide +kernel
theorem dX7_spit_77 : decode cX7_spit 77 = .ok (.iconst 2, 1) := by decide +kernel
theorem dX7_spit_78 : decode cX7_spit 78 = .ok (.if_icmp .ge 16, 3) := by decide +kernel
theorem dX7_spit_81 : decode cX7_spit 81 = .ok (.aload_n 0, 1) := by decide +kernel
theorem dX7_spit_82 : decode cX7_spit 82 = .ok (.getfield 52, 3) := by decide +kernel
theorem dX7_spit_85 : decode cX7_spit 85 = .ok (.iload_n 2, 1) := by decide +kernel
theorem dX7_spit_86 : decode cX7_spit 86 = .ok (.iconst 0, 1) := by decide +kernel
theorem dX7_spit_87 : decode cX7_spit 87 = .ok (.bastore, 1) := by decide +kernel
theorem dX7_spit_88 : decode cX7_spit 88 = .ok (.iinc 2 1, 3) := by decide +kernel
theorem dX7_spit_91 : decode cX7_spit 91 = .ok (.goto (-15), 3) := by decide +kernel
theorem dX7_spit_94 : decode cX7_spit 94 = .ok (.aload_n 0, 1) := by decide +kernel
theorem dX7_spit_95 : decode cX7_spit 95 = .ok (.getfield 41, 3) := by decide +kernel
theorem dX7_spit_98 : decode cX7_spit 98 = .ok (.getfield 114, 3) := by decide +kernel
theorem dX7_spit_101 : decode cX7_spit 101 = .ok (.ireturn, 1) := by decide +kernel
theorem dX7_fault_0 : decode cX7_fault 0 = .ok (.aload_n 0, 1) := by decide +kernel
theorem dX7_fault_1 : decode cX7_fault 1 = .ok (.getfield 13, 3) := by decide +kernel
theorem dX7_fault_4 : decode cX7_fault 4 = .ok (.ireturn, 1) := by decide +kernel
theorem dX7_told_0 : decode cX7_told 0 = .ok (.iload_n 1, 1) := by decide +kernel
theorem dX7_told_1 : decode cX7_told 1 = .ok (.tableswitch 108 0 7 #[47, 55, 63, 71, 76, 84, 92, 100], 47) := by decide +kernel
theorem dX7_told_48 : decode cX7_told 48 = .ok (.aload_n 0, 1) := by decide +kernel
theorem dX7_told_49 : decode cX7_told 49 = .ok (.getfield 20, 3) := by decide +kernel
theorem dX7_told_52 : decode cX7_told 52 = .ok (.getfield 117, 3) := by decide +kernel
theorem dX7_told_55 : decode cX7_told 55 = .ok (.ireturn, 1) := by decide +kernel
theorem dX7_told_56 : decode cX7_told 56 = .ok (.aload_n 0, 1) := by decide +kernel
theorem dX7_told_57 : decode cX7_told 57 = .ok (.getfield 20, 3) := by decide +kernel
theorem dX7_told_60 : decode cX7_told 60 = .ok (.getfield 120, 3) := by decide +kernel
theorem dX7_told_63 : decode cX7_told 63 = .ok (.ireturn, 1) := by decide +kernel
theorem dX7_told_64 : decode cX7_told 64 = .ok (.aload_n 0, 1) := by decide +kernel
theorem dX7_told_65 : decode cX7_told 65 = .ok (.getfield 41, 3) := by decide +kernel
theorem dX7_told_68 : decode cX7_told 68 = .ok (.getfield 114, 3) := by decide +kernel
theorem dX7_told_71 : decode cX7_told 71 = .ok (.ireturn, 1) := by decide +kernel
theorem dX7_told_72 : decode cX7_told 72 = .ok (.aload_n 0, 1) := by decide +kernel
theorem dX7_told_73 : decode cX7_told 73 = .ok (.getfield 91, 3) := by decide +kernel
theorem dX7_told_76 : decode cX7_told 76 = .ok (.ireturn, 1) := by decide +kernel
theorem dX7_told_77 : decode cX7_told 77 = .ok (.aload_n 0, 1) := by decide +kernel
theorem dX7_told_78 : decode cX7_told 78 = .ok (.getfield 41, 3) := by decide +kernel
theorem dX7_told_81 : decode cX7_told 81 = .ok (.getfield 123, 3) := by decide +kernel
theorem dX7_told_84 : decode cX7_told 84 = .ok (.ireturn, 1) := by decide +kernel
theorem dX7_told_85 : decode cX7_told 85 = .ok (.aload_n 0, 1) := by decide +kernel
theorem dX7_told_86 : decode cX7_told 86 = .ok (.getfield 59, 3) := by decide +kernel
theorem dX7_told_89 : decode cX7_told 89 = .ok (.getfield 111, 3) := by decide +kernel
theorem dX7_told_92 : decode cX7_told 92 = .ok (.ireturn, 1) := by decide +kernel
theorem dX7_told_93 : decode cX7_told 93 = .ok (.aload_n 0, 1) := by decide +kernel
theorem dX7_told_94 : decode cX7_told 94 = .ok (.getfield 41, 3) := by decide +kernel
theorem dX7_told_97 : decode cX7_told 97 = .ok (.invokevirtual 126, 3) := by decide +kernel
theorem dX7_told_100 : decode cX7_told 100 = .ok (.ireturn, 1) := by decide +kernel
theorem dX7_told_101 : decode cX7_told 101 = .ok (.aload_n 0, 1) := by decide +kernel
theorem dX7_told_102 : decode cX7_told 102 = .ok (.getfield 41, 3) := by decide +kernel
theorem dX7_told_105 : decode cX7_told 105 = .ok (.invokevirtual 130, 3) := by decide +kernel
theorem dX7_told_108 : decode cX7_told 108 = .ok (.ireturn, 1) := by decide +kernel
theorem dX7_told_109 : decode cX7_told 109 = .ok (.ldc 90, 2) := by decide +kernel
theorem dX7_told_111 : decode cX7_told 111 = .ok (.ireturn, 1) := by decide +kernel
theorem dX7_house_0 : decode cX7_house 0 = .ok (.aload_n 0, 1) := by decide +kernel
theorem dX7_house_1 : decode cX7_house 1 = .ok (.getfield 20, 3) := by decide +kernel
theorem dX7_house_4 : decode cX7_house 4 = .ok (.iload_n 1, 1) := by decide +kernel
theorem dX7_house_5 : decode cX7_house 5 = .ok (.invokevirtual 133, 3) := by decide +kernel
theorem dX7_house_8 : decode cX7_house 8 = .ok (.ifCond .ne 6, 3) := by decide +kernel
theorem dX7_house_11 : decode cX7_house 11 = .ok (.ldc 136, 2) := by decide +kernel
theorem dX7_house_13 : decode cX7_house 13 = .ok (.ireturn, 1) := by decide +kernel
theorem dX7_house_14 : decode cX7_house 14 = .ok (.iload_n 2, 1) := by decide +kernel
theorem dX7_house_15 : decode cX7_house 15 = .ok (.tableswitch 80 0 4 #[33, 43, 53, 62, 71], 33) := by decide +kernel
theorem dX7_house_48 : decode cX7_house 48 = .ok (.aload_n 0, 1) := by decide +kernel
theorem dX7_house_49 : decode cX7_house 49 = .ok (.getfield 20, 3) := by decide +kernel
theorem dX7_house_52 : decode cX7_house 52 = .ok (.getfield 137, 3) := by decide +kernel
theorem dX7_house_55 : decode cX7_house 55 = .ok (.iload_n 1, 1) := by decide +kernel
theorem dX7_house_56 : decode cX7_house 56 = .ok (.iaload, 1) := by decide +kernel
theorem dX7_house_57 : decode cX7_house 57 = .ok (.ireturn, 1) := by decide +kernel
theorem dX7_house_58 : decode cX7_house 58 = .ok (.aload_n 0, 1) := by decide +kernel
theorem dX7_house_59 : decode cX7_house 59 = .ok (.getfield 41, 3) := by decide +kernel
theorem dX7_house_62 : decode cX7_house 62 = .ok (.getfield 140, 3) := by decide +kernel
theorem dX7_house_65 : decode cX7_house 65 = .ok (.iload_n 1, 1) := by decide +kernel
theorem dX7_house_66 : decode cX7_house 66 = .ok (.iaload, 1) := by decide +kernel
theorem dX7_house_67 : decode cX7_house 67 = .ok (.ireturn, 1) := by decide +kernel
theorem dX7_house_68 : decode cX7_house 68 = .ok (.aload_n 0, 1) := by decide +kernel
theorem dX7_house_69 : decode cX7_house 69 = .ok (.getfield 41, 3) := by decide +kernel
theorem dX7_house_72 : decode cX7_house 72 = .ok (.iload_n 1, 1) := by decide +kernel
theorem dX7_house_73 : decode cX7_house 73 = .ok (.invokevirtual 143, 3) := by decide +kernel
theorem dX7_house_76 : decode cX7_house 76 = .ok (.ireturn, 1) := by decide +kernel
theorem dX7_house_77 : decode cX7_house 77 = .ok (.aload_n 0, 1) := by decide +kernel
theorem dX7_house_78 : decode cX7_house 78 = .ok (.getfield 41, 3) := by decide +kernel
theorem dX7_house_81 : decode cX7_house 81 = .ok (.iload_n 1, 1) := by decide +kernel
theorem dX7_house_82 : decode cX7_house 82 = .ok (.invokevirtual 147, 3) := by decide +kernel
theorem dX7_house_85 : decode cX7_house 85 = .ok (.ireturn, 1) := by decide +kernel
theorem dX7_house_86 : decode cX7_house 86 = .ok (.aload_n 0, 1) := by decide +kernel
theorem dX7_house_87 : decode cX7_house 87 = .ok (.getfield 41, 3) := by decide +kernel
theorem dX7_house_90 : decode cX7_house 90 = .ok (.iload_n 1, 1) := by decide +kernel
theorem dX7_house_91 : decode cX7_house 91 = .ok (.invokevirtual 150, 3) := by decide +kernel
theorem dX7_house_94 : decode cX7_house 94 = .ok (.ireturn, 1) := by decide +kernel
theorem dX7_house_95 : decode cX7_house 95 = .ok (.ldc 90, 2) := by decide +kernel
theorem dX7_house_97 : decode cX7_house 97 = .ok (.ireturn, 1) := by decide +kernel
theorem dX7_worth_0 : decode cX7_worth 0 = .ok (.aload_n 0, 1) := by decide +kernel
theorem dX7_worth_1 : decode cX7_worth 1 = .ok (.getfield 20, 3) := by decide +kernel
theorem dX7_worth_4 : decode cX7_worth 4 = .ok (.iload_n 1, 1) := by decide +kernel
theorem dX7_worth_5 : decode cX7_worth 5 = .ok (.invokevirtual 133, 3) := by decide +kernel
theorem dX7_worth_8 : decode cX7_worth 8 = .ok (.ifCond .eq 14, 3) := by decide +kernel
theorem dX7_worth_11 : decode cX7_worth 11 = .ok (.aload_n 0, 1) := by decide +kernel
theorem dX7_worth_12 : decode cX7_worth 12 = .ok (.getfield 20, 3) := by decide +kernel
theorem dX7_worth_15 : decode cX7_worth 15 = .ok (.iload_n 2, 1) := by decide +kernel
theorem dX7_worth_16 : decode cX7_worth 16 = .ok (.invokevirtual 153, 3) := by decide +kernel
theorem dX7_worth_19 : decode cX7_worth 19 = .ok (.ifCond .ne 6, 3) := by decide +kernel
theorem dX7_worth_22 : decode cX7_worth 22 = .ok (.ldc 136, 2) := by decide +kernel
theorem dX7_worth_24 : decode cX7_worth 24 = .ok (.ireturn, 1) := by decide +kernel
theorem dX7_worth_25 : decode cX7_worth 25 = .ok (.aload_n 0, 1) := by decide +kernel
theorem dX7_worth_26 : decode cX7_worth 26 = .ok (.getfield 20, 3) := by decide +kernel
theorem dX7_worth_29 : decode cX7_worth 29 = .ok (.iload_n 1, 1) := by decide +kernel
theorem dX7_worth_30 : decode cX7_worth 30 = .ok (.iload_n 2, 1) := by decide +kernel
theorem dX7_worth_31 : decode cX7_worth 31 = .ok (.invokevirtual 156, 3) := by decide +kernel
theorem dX7_worth_34 : decode cX7_worth 34 = .ok (.ireturn, 1) := by decide +kernel
theorem dX7_part_0 : decode cX7_part 0 = .ok (.aload_n 0, 1) := by decide +kernel
theorem dX7_part_1 : decode cX7_part 1 = .ok (.getfield 41, 3) := by decide +kernel
theorem dX7_part_4 : decode cX7_part 4 = .ok (.iload_n 1, 1) := by decide +kernel
theorem dX7_part_5 : decode cX7_part 5 = .ok (.invokevirtual 160, 3) := by decide +kernel
theorem dX7_part_8 : decode cX7_part 8 = .ok (.ifCond .ne 6, 3) := by decide +kernel
theorem dX7_part_11 : decode cX7_part 11 = .ok (.ldc 136, 2) := by decide +kernel
theorem dX7_part_13 : decode cX7_part 13 = .ok (.ireturn, 1) := by decide +kernel
theorem dX7_part_14 : decode cX7_part 14 = .ok (.iload_n 2, 1) := by decide +kernel
theorem dX7_part_15 : decode cX7_part 15 = .ok (.tableswitch 69 0 3 #[29, 39, 49, 59], 29) := by decide +kernel
theorem dX7_part_44 : decode cX7_part 44 = .ok (.aload_n 0, 1) := by decide +kernel
theorem dX7_part_45 : decode cX7_part 45 = .ok (.getfield 41, 3) := by decide +kernel
theorem dX7_part_48 : decode cX7_part 48 = .ok (.getfield 163, 3) := by decide +kernel
theorem dX7_part_51 : decode cX7_part 51 = .ok (.iload_n 1, 1) := by decide +kernel
theorem dX7_part_52 : decode cX7_part 52 = .ok (.iaload, 1) := by decide +kernel
theorem dX7_part_53 : decode cX7_part 53 = .ok (.ireturn, 1) := by decide +kernel
theorem dX7_part_54 : decode cX7_part 54 = .ok (.aload_n 0, 1) := by decide +kernel
theorem dX7_part_55 : decode cX7_part 55 = .ok (.getfield 41, 3) := by decide +kernel
theorem dX7_part_58 : decode cX7_part 58 = .ok (.getfield 166, 3) := by decide +kernel
theorem dX7_part_61 : decode cX7_part 61 = .ok (.iload_n 1, 1) := by decide +kernel
theorem dX7_part_62 : decode cX7_part 62 = .ok (.iaload, 1) := by decide +kernel
theorem dX7_part_63 : decode cX7_part 63 = .ok (.ireturn, 1) := by decide +kernel
theorem dX7_part_64 : decode cX7_part 64 = .ok (.aload_n 0, 1) := by decide +kernel
theorem dX7_part_65 : decode cX7_part 65 = .ok (.getfield 41, 3) := by decide +kernel
theorem dX7_part_68 : decode cX7_part 68 = .ok (.getfield 169, 3) := by decide +kernel
theorem dX7_part_71 : decode cX7_part 71 = .ok (.iload_n 1, 1) := by decide +kernel
theorem dX7_part_72 : decode cX7_part 72 = .ok (.iaload, 1) := by decide +kernel
theorem dX7_part_73 : decode cX7_part 73 = .ok (.ireturn, 1) := by decide +kernel
theorem dX7_part_74 : decode cX7_part 74 = .ok (.aload_n 0, 1) := by decide +kernel
theorem dX7_part_75 : decode cX7_part 75 = .ok (.getfield 41, 3) := by decide +kernel
theorem dX7_part_78 : decode cX7_part 78 = .ok (.getfield 172, 3) := by decide +kernel
theorem dX7_part_81 : decode cX7_part 81 = .ok (.iload_n 1, 1) := by decide +kernel
theorem dX7_part_82 : decode cX7_part 82 = .ok (.iaload, 1) := by decide +kernel
theorem dX7_part_83 : decode cX7_part 83 = .ok (.ireturn, 1) := by decide +kernel
theorem dX7_part_84 : decode cX7_part 84 = .ok (.ldc 90, 2) := by decide +kernel
theorem dX7_part_86 : decode cX7_part 86 = .ok (.ireturn, 1) := by decide +kernel
theorem dX7_hand_0 : decode cX7_hand 0 = .ok (.aload_n 0, 1) := by decide +kernel
theorem dX7_hand_1 : decode cX7_hand 1 = .ok (.getfield 41, 3) := by decide +kernel
theorem dX7_hand_4 : decode cX7_hand 4 = .ok (.iload_n 1, 1) := by decide +kernel
theorem dX7_hand_5 : decode cX7_hand 5 = .ok (.invokevirtual 160, 3) := by decide +kernel
theorem dX7_hand_8 : decode cX7_hand 8 = .ok (.ifCond .ne 6, 3) := by decide +kernel
theorem dX7_hand_11 : decode cX7_hand 11 = .ok (.ldc 136, 2) := by decide +kernel
theorem dX7_hand_13 : decode cX7_hand 13 = .ok (.ireturn, 1) := by decide +kernel
theorem dX7_hand_14 : decode cX7_hand 14 = .ok (.iload_n 2, 1) := by decide +kernel
theorem dX7_hand_15 : decode cX7_hand 15 = .ok (.ifCond .lt 16, 3) := by decide +kernel
theorem dX7_hand_18 : decode cX7_hand 18 = .ok (.iload_n 2, 1) := by decide +kernel
theorem dX7_hand_19 : decode cX7_hand 19 = .ok (.aload_n 0, 1) := by decide +kernel
theorem dX7_hand_20 : decode cX7_hand 20 = .ok (.getfield 41, 3) := by decide +kernel
theorem dX7_hand_23 : decode cX7_hand 23 = .ok (.getfield 172, 3) := by decide +kernel
theorem dX7_hand_26 : decode cX7_hand 26 = .ok (.iload_n 1, 1) := by decide +kernel
theorem dX7_hand_27 : decode cX7_hand 27 = .ok (.iaload, 1) := by decide +kernel
theorem dX7_hand_28 : decode cX7_hand 28 = .ok (.if_icmp .lt 7, 3) := by decide +kernel
theorem dX7_hand_31 : decode cX7_hand 31 = .ok (.iconst (-1), 1) := by decide +kernel
theorem dX7_hand_32 : decode cX7_hand 32 = .ok (.goto 17, 3) := by decide +kernel
theorem dX7_hand_35 : decode cX7_hand 35 = .ok (.aload_n 0, 1) := by decide +kernel
theorem dX7_hand_36 : decode cX7_hand 36 = .ok (.getfield 41, 3) := by decide +kernel
theorem dX7_hand_39 : decode cX7_hand 39 = .ok (.getfield 175, 3) := by decide +kernel
theorem dX7_hand_42 : decode cX7_hand 42 = .ok (.iload_n 1, 1) := by decide +kernel
theorem dX7_hand_43 : decode cX7_hand 43 = .ok (.bipush 20, 2) := by decide +kernel
theorem dX7_hand_45 : decode cX7_hand 45 = .ok (.imul, 1) := by decide +kernel
theorem dX7_hand_46 : decode cX7_hand 46 = .ok (.iload_n 2, 1) := by decide +kernel
theorem dX7_hand_47 : decode cX7_hand 47 = .ok (.iadd, 1) := by decide +kernel
theorem dX7_hand_48 : decode cX7_hand 48 = .ok (.iaload, 1) := by decide +kernel
theorem dX7_hand_49 : decode cX7_hand 49 = .ok (.ireturn, 1) := by decide +kernel
theorem dX7_toss_0 : decode cX7_toss 0 = .ok (.aload_n 0, 1) := by decide +kernel
theorem dX7_toss_1 : decode cX7_toss 1 = .ok (.getfield 20, 3) := by decide +kernel
theorem dX7_toss_4 : decode cX7_toss 4 = .ok (.iload_n 1, 1) := by decide +kernel
theorem dX7_toss_5 : decode cX7_toss 5 = .ok (.invokevirtual 133, 3) := by decide +kernel
theorem dX7_toss_8 : decode cX7_toss 8 = .ok (.ifCond .eq 14, 3) := by decide +kernel
theorem dX7_toss_11 : decode cX7_toss 11 = .ok (.aload_n 0, 1) := by decide +kernel
theorem dX7_toss_12 : decode cX7_toss 12 = .ok (.getfield 41, 3) := by decide +kernel
theorem dX7_toss_15 : decode cX7_toss 15 = .ok (.iload_n 2, 1) := by decide +kernel
theorem dX7_toss_16 : decode cX7_toss 16 = .ok (.invokevirtual 160, 3) := by decide +kernel
theorem dX7_toss_19 : decode cX7_toss 19 = .ok (.ifCond .ne 6, 3) := by decide +kernel
theorem dX7_toss_22 : decode cX7_toss 22 = .ok (.ldc 136, 2) := by decide +kernel
theorem dX7_toss_24 : decode cX7_toss 24 = .ok (.ireturn, 1) := by decide +kernel
theorem dX7_toss_25 : decode cX7_toss 25 = .ok (.aload_n 0, 1) := by decide +kernel
theorem dX7_toss_26 : decode cX7_toss 26 = .ok (.getfield 41, 3) := by decide +kernel
theorem dX7_toss_29 : decode cX7_toss 29 = .ok (.iload_n 1, 1) := by decide +kernel
theorem dX7_toss_30 : decode cX7_toss 30 = .ok (.iload_n 2, 1) := by decide +kernel
theorem dX7_toss_31 : decode cX7_toss 31 = .ok (.invokevirtual 178, 3) := by decide +kernel
theorem dX7_toss_34 : decode cX7_toss 34 = .ok (.ifCond .eq 15, 3) := by decide +kernel
theorem dX7_toss_37 : decode cX7_toss 37 = .ok (.aload_n 0, 1) := by decide +kernel
theorem dX7_toss_38 : decode cX7_toss 38 = .ok (.getfield 41, 3) := by decide +kernel
theorem dX7_toss_41 : decode cX7_toss 41 = .ok (.getfield 140, 3) := by decide +kernel
theorem dX7_toss_44 : decode cX7_toss 44 = .ok (.iload_n 1, 1) := by decide +kernel
theorem dX7_toss_45 : decode cX7_toss 45 = .ok (.iaload, 1) := by decide +kernel
theorem dX7_toss_46 : decode cX7_toss 46 = .ok (.goto 5, 3) := by decide +kernel
theorem dX7_toss_49 : decode cX7_toss 49 = .ok (.ldc 182, 2) := by decide +kernel
theorem dX7_toss_51 : decode cX7_toss 51 = .ok (.ireturn, 1) := by decide +kernel
theorem dX7_take_0 : decode cX7_take 0 = .ok (.aload_n 0, 1) := by decide +kernel
theorem dX7_take_1 : decode cX7_take 1 = .ok (.getfield 20, 3) := by decide +kernel
theorem dX7_take_4 : decode cX7_take 4 = .ok (.iload_n 1, 1) := by decide +kernel
theorem dX7_take_5 : decode cX7_take 5 = .ok (.invokevirtual 133, 3) := by decide +kernel
theorem dX7_take_8 : decode cX7_take 8 = .ok (.ifCond .eq 14, 3) := by decide +kernel
theorem dX7_take_11 : decode cX7_take 11 = .ok (.aload_n 0, 1) := by decide +kernel
theorem dX7_take_12 : decode cX7_take 12 = .ok (.getfield 41, 3) := by decide +kernel
theorem dX7_take_15 : decode cX7_take 15 = .ok (.iload_n 2, 1) := by decide +kernel
theorem dX7_take_16 : decode cX7_take 16 = .ok (.invokevirtual 160, 3) := by decide +kernel
theorem dX7_take_19 : decode cX7_take 19 = .ok (.ifCond .ne 6, 3) := by decide +kernel
theorem dX7_take_22 : decode cX7_take 22 = .ok (.ldc 136, 2) := by decide +kernel
theorem dX7_take_24 : decode cX7_take 24 = .ok (.ireturn, 1) := by decide +kernel
theorem dX7_take_25 : decode cX7_take 25 = .ok (.aload_n 0, 1) := by decide +kernel
theorem dX7_take_26 : decode cX7_take 26 = .ok (.getfield 41, 3) := by decide +kernel
theorem dX7_take_29 : decode cX7_take 29 = .ok (.iload_n 1, 1) := by decide +kernel
theorem dX7_take_30 : decode cX7_take 30 = .ok (.iload_n 2, 1) := by decide +kernel
theorem dX7_take_31 : decode cX7_take 31 = .ok (.invokevirtual 183, 3) := by decide +kernel
theorem dX7_take_34 : decode cX7_take 34 = .ok (.ifCond .eq 15, 3) := by decide +kernel
theorem dX7_take_37 : decode cX7_take 37 = .ok (.aload_n 0, 1) := by decide +kernel
theorem dX7_take_38 : decode cX7_take 38 = .ok (.getfield 41, 3) := by decide +kernel
theorem dX7_take_41 : decode cX7_take 41 = .ok (.getfield 140, 3) := by decide +kernel
theorem dX7_take_44 : decode cX7_take 44 = .ok (.iload_n 1, 1) := by decide +kernel
theorem dX7_take_45 : decode cX7_take 45 = .ok (.iaload, 1) := by decide +kernel
theorem dX7_take_46 : decode cX7_take 46 = .ok (.goto 5, 3) := by decide +kernel
theorem dX7_take_49 : decode cX7_take 49 = .ok (.ldc 182, 2) := by decide +kernel
theorem dX7_take_51 : decode cX7_take 51 = .ok (.ireturn, 1) := by decide +kernel
theorem dX7_ashore_0 : decode cX7_ashore 0 = .ok (.aload_n 0, 1) := by decide +kernel
theorem dX7_ashore_1 : decode cX7_ashore 1 = .ok (.getfield 20, 3) := by decide +kernel
theorem dX7_ashore_4 : decode cX7_ashore 4 = .ok (.iload_n 1, 1) := by decide +kernel
theorem dX7_ashore_5 : decode cX7_ashore 5 = .ok (.invokevirtual 153, 3) := by decide +kernel
theorem dX7_ashore_8 : decode cX7_ashore 8 = .ok (.ifCond .ne 6, 3) := by decide +kernel
theorem dX7_ashore_11 : decode cX7_ashore 11 = .ok (.ldc 136, 2) := by decide +kernel
theorem dX7_ashore_13 : decode cX7_ashore 13 = .ok (.ireturn, 1) := by decide +kernel
theorem dX7_ashore_14 : decode cX7_ashore 14 = .ok (.aload_n 0, 1) := by decide +kernel
theorem dX7_ashore_15 : decode cX7_ashore 15 = .ok (.getfield 41, 3) := by decide +kernel
theorem dX7_ashore_18 : decode cX7_ashore 18 = .ok (.iload_n 1, 1) := by decide +kernel
theorem dX7_ashore_19 : decode cX7_ashore 19 = .ok (.iconst (-1), 1) := by decide +kernel
theorem dX7_ashore_20 : decode cX7_ashore 20 = .ok (.invokevirtual 186, 3) := by decide +kernel
theorem dX7_ashore_23 : decode cX7_ashore 23 = .ok (.ifCond .eq 15, 3) := by decide +kernel
theorem dX7_ashore_26 : decode cX7_ashore 26 = .ok (.aload_n 0, 1) := by decide +kernel
theorem dX7_ashore_27 : decode cX7_ashore 27 = .ok (.getfield 41, 3) := by decide +kernel
theorem dX7_ashore_30 : decode cX7_ashore 30 = .ok (.getfield 114, 3) := by decide +kernel
theorem dX7_ashore_33 : decode cX7_ashore 33 = .ok (.iconst 1, 1) := by decide +kernel
theorem dX7_ashore_34 : decode cX7_ashore 34 = .ok (.isub, 1) := by decide +kernel
theorem dX7_ashore_35 : decode cX7_ashore 35 = .ok (.goto 5, 3) := by decide +kernel
theorem dX7_ashore_38 : decode cX7_ashore 38 = .ok (.ldc 94, 2) := by decide +kernel
theorem dX7_ashore_40 : decode cX7_ashore 40 = .ok (.ireturn, 1) := by decide +kernel
theorem dX7_first_0 : decode cX7_first 0 = .ok (.aload_n 0, 1) := by decide +kernel
theorem dX7_first_1 : decode cX7_first 1 = .ok (.getfield 41, 3) := by decide +kernel
theorem dX7_first_4 : decode cX7_first 4 = .ok (.iload_n 1, 1) := by decide +kernel
theorem dX7_first_5 : decode cX7_first 5 = .ok (.invokevirtual 160, 3) := by decide +kernel
theorem dX7_first_8 : decode cX7_first 8 = .ok (.ifCond .ne 6, 3) := by decide +kernel
theorem dX7_first_11 : decode cX7_first 11 = .ok (.ldc 136, 2) := by decide +kernel
theorem dX7_first_13 : decode cX7_first 13 = .ok (.ireturn, 1) := by decide +kernel
theorem dX7_first_14 : decode cX7_first 14 = .ok (.aload_n 0, 1) := by decide +kernel
theorem dX7_first_15 : decode cX7_first 15 = .ok (.getfield 41, 3) := by decide +kernel
theorem dX7_first_18 : decode cX7_first 18 = .ok (.iload_n 1, 1) := by decide +kernel
theorem dX7_first_19 : decode cX7_first 19 = .ok (.invokevirtual 189, 3) := by decide +kernel
theorem dX7_first_22 : decode cX7_first 22 = .ok (.ifCond .eq 14, 3) := by decide +kernel
theorem dX7_first_25 : decode cX7_first 25 = .ok (.aload_n 0, 1) := by decide +kernel
theorem dX7_first_26 : decode cX7_first 26 = .ok (.getfield 41, 3) := by decide +kernel
theorem dX7_first_29 : decode cX7_first 29 = .ok (.iload_n 1, 1) := by decide +kernel
theorem dX7_first_30 : decode cX7_first 30 = .ok (.invokevirtual 192, 3) := by decide +kernel
theorem dX7_first_33 : decode cX7_first 33 = .ok (.goto 5, 3) := by decide +kernel
theorem dX7_first_36 : decode cX7_first 36 = .ok (.ldc 182, 2) := by decide +kernel
theorem dX7_first_38 : decode cX7_first 38 = .ok (.ireturn, 1) := by decide +kernel
theorem dX7_week_0 : decode cX7_week 0 = .ok (.iload_n 1, 1) := by decide +kernel
theorem dX7_week_1 : decode cX7_week 1 = .ok (.iconst 1, 1) := by decide +kernel
theorem dX7_week_2 : decode cX7_week 2 = .ok (.if_icmp .lt 9, 3) := by decide +kernel
theorem dX7_week_5 : decode cX7_week 5 = .ok (.iload_n 1, 1) := by decide +kernel
theorem dX7_week_6 : decode cX7_week 6 = .ok (.bipush 99, 2) := by decide +kernel
theorem dX7_week_8 : decode cX7_week 8 = .ok (.if_icmp .le 6, 3) := by decide +kernel
theorem dX7_week_11 : decode cX7_week 11 = .ok (.ldc 90, 2) := by decide +kernel
theorem dX7_week_13 : decode cX7_week 13 = .ok (.ireturn, 1) := by decide +kernel
theorem dX7_week_14 : decode cX7_week 14 = .ok (.aload_n 0, 1) := by decide +kernel
theorem dX7_week_15 : decode cX7_week 15 = .ok (.getfield 41, 3) := by decide +kernel
theorem dX7_week_18 : decode cX7_week 18 = .ok (.iload_n 1, 1) := by decide +kernel
theorem dX7_week_19 : decode cX7_week 19 = .ok (.iconst 0, 1) := by decide +kernel
theorem dX7_week_20 : decode cX7_week 20 = .ok (.invokevirtual 195, 3) := by decide +kernel
theorem dX7_week_23 : decode cX7_week 23 = .ok (.ireturn, 1) := by decide +kernel
theorem dX7_drift_0 : decode cX7_drift 0 = .ok (.iload_n 1, 1) := by decide +kernel
theorem dX7_drift_1 : decode cX7_drift 1 = .ok (.iconst 1, 1) := by decide +kernel
theorem dX7_drift_2 : decode cX7_drift 2 = .ok (.if_icmp .lt 9, 3) := by decide +kernel
theorem dX7_drift_5 : decode cX7_drift 5 = .ok (.iload_n 1, 1) := by decide +kernel
theorem dX7_drift_6 : decode cX7_drift 6 = .ok (.bipush 99, 2) := by decide +kernel
theorem dX7_drift_8 : decode cX7_drift 8 = .ok (.if_icmp .le 6, 3) := by decide +kernel
theorem dX7_drift_11 : decode cX7_drift 11 = .ok (.ldc 90, 2) := by decide +kernel
theorem dX7_drift_13 : decode cX7_drift 13 = .ok (.ireturn, 1) := by decide +kernel
theorem dX7_drift_14 : decode cX7_drift 14 = .ok (.aload_n 0, 1) := by decide +kernel
theorem dX7_drift_15 : decode cX7_drift 15 = .ok (.getfield 20, 3) := by decide +kernel
theorem dX7_drift_18 : decode cX7_drift 18 = .ok (.getfield 117, 3) := by decide +kernel
theorem dX7_drift_21 : decode cX7_drift 21 = .ok (.ifCond .ne 6, 3) := by decide +kernel
theorem dX7_drift_24 : decode cX7_drift 24 = .ok (.ldc 182, 2) := by decide +kernel
theorem dX7_drift_26 : decode cX7_drift 26 = .ok (.ireturn, 1) := by decide +kernel
theorem dX7_drift_27 : decode cX7_drift 27 = .ok (.aload_n 0, 1) := by decide +kernel
theorem dX7_drift_28 : decode cX7_drift 28 = .ok (.getfield 41, 3) := by decide +kernel
theorem dX7_drift_31 : decode cX7_drift 31 = .ok (.iload_n 1, 1) := by decide +kernel
theorem dX7_drift_32 : decode cX7_drift 32 = .ok (.iconst 1, 1) := by decide +kernel
theorem dX7_drift_33 : decode cX7_drift 33 = .ok (.invokevirtual 195, 3) := by decide +kernel
theorem dX7_drift_36 : decode cX7_drift 36 = .ok (.ireturn, 1) := by decide +kernel
theorem dX7_begin_0 : decode cX7_begin 0 = .ok (.aload_n 0, 1) := by decide +kernel
theorem dX7_begin_1 : decode cX7_begin 1 = .ok (.getfield 41, 3) := by decide +kernel
theorem dX7_begin_4 : decode cX7_begin 4 = .ok (.getfield 123, 3) := by decide +kernel
theorem dX7_begin_7 : decode cX7_begin 7 = .ok (.istore_n 1, 1) := by decide +kernel
theorem dX7_begin_8 : decode cX7_begin 8 = .ok (.aload_n 0, 1) := by decide +kernel
theorem dX7_begin_9 : decode cX7_begin 9 = .ok (.getfield 41, 3) := by decide +kernel
theorem dX7_begin_12 : decode cX7_begin 12 = .ok (.invokevirtual 108, 3) := by decide +kernel
theorem dX7_begin_15 : decode cX7_begin 15 = .ok (.iload_n 1, 1) := by decide +kernel
theorem dX7_begin_16 : decode cX7_begin 16 = .ok (.ireturn, 1) := by decide +kernel
theorem dX7_gain_0 : decode cX7_gain 0 = .ok (.aload_n 0, 1) := by decide +kernel
theorem dX7_gain_1 : decode cX7_gain 1 = .ok (.getfield 20, 3) := by decide +kernel
theorem dX7_gain_4 : decode cX7_gain 4 = .ok (.iload_n 1, 1) := by decide +kernel
theorem dX7_gain_5 : decode cX7_gain 5 = .ok (.invokevirtual 133, 3) := by decide +kernel
theorem dX7_gain_8 : decode cX7_gain 8 = .ok (.ifCond .eq 14, 3) := by decide +kernel
theorem dX7_gain_11 : decode cX7_gain 11 = .ok (.aload_n 0, 1) := by decide +kernel
theorem dX7_gain_12 : decode cX7_gain 12 = .ok (.getfield 41, 3) := by decide +kernel
theorem dX7_gain_15 : decode cX7_gain 15 = .ok (.iload_n 2, 1) := by decide +kernel
theorem dX7_gain_16 : decode cX7_gain 16 = .ok (.invokevirtual 160, 3) := by decide +kernel
theorem dX7_gain_19 : decode cX7_gain 19 = .ok (.ifCond .ne 6, 3) := by decide +kernel
theorem dX7_gain_22 : decode cX7_gain 22 = .ok (.ldc 136, 2) := by decide +kernel
theorem dX7_gain_24 : decode cX7_gain 24 = .ok (.ireturn, 1) := by decide +kernel
theorem dX7_gain_25 : decode cX7_gain 25 = .ok (.aload_n 0, 1) := by decide +kernel
theorem dX7_gain_26 : decode cX7_gain 26 = .ok (.getfield 41, 3) := by decide +kernel
theorem dX7_gain_29 : decode cX7_gain 29 = .ok (.iload_n 1, 1) := by decide +kernel
theorem dX7_gain_30 : decode cX7_gain 30 = .ok (.aload_n 0, 1) := by decide +kernel
theorem dX7_gain_31 : decode cX7_gain 31 = .ok (.getfield 41, 3) := by decide +kernel
theorem dX7_gain_34 : decode cX7_gain 34 = .ok (.getfield 163, 3) := by decide +kernel
theorem dX7_gain_37 : decode cX7_gain 37 = .ok (.iload_n 2, 1) := by decide +kernel
theorem dX7_gain_38 : decode cX7_gain 38 = .ok (.iaload, 1) := by decide +kernel
theorem dX7_gain_39 : decode cX7_gain 39 = .ok (.invokevirtual 199, 3) := by decide +kernel
theorem dX7_gain_42 : decode cX7_gain 42 = .ok (.ireturn, 1) := by decide +kernel
theorem dX7_down_0 : decode cX7_down 0 = .ok (.aload_n 0, 1) := by decide +kernel
theorem dX7_down_1 : decode cX7_down 1 = .ok (.getfield 20, 3) := by decide +kernel
theorem dX7_down_4 : decode cX7_down 4 = .ok (.iload_n 1, 1) := by decide +kernel
theorem dX7_down_5 : decode cX7_down 5 = .ok (.invokevirtual 153, 3) := by decide +kernel
theorem dX7_down_8 : decode cX7_down 8 = .ok (.ifCond .eq 19, 3) := by decide +kernel
theorem dX7_down_11 : decode cX7_down 11 = .ok (.iload_n 3, 1) := by decide +kernel
theorem dX7_down_12 : decode cX7_down 12 = .ok (.iconst (-1), 1) := by decide +kernel
theorem dX7_down_13 : decode cX7_down 13 = .ok (.if_icmp .eq 17, 3) := by decide +kernel
theorem dX7_down_16 : decode cX7_down 16 = .ok (.aload_n 0, 1) := by decide +kernel
theorem dX7_down_17 : decode cX7_down 17 = .ok (.getfield 20, 3) := by decide +kernel
theorem dX7_down_20 : decode cX7_down 20 = .ok (.iload_n 3, 1) := by decide +kernel
theorem dX7_down_21 : decode cX7_down 21 = .ok (.invokevirtual 133, 3) := by decide +kernel
theorem dX7_down_24 : decode cX7_down 24 = .ok (.ifCond .ne 6, 3) := by decide +kernel
theorem dX7_down_27 : decode cX7_down 27 = .ok (.ldc 136, 2) := by decide +kernel
theorem dX7_down_29 : decode cX7_down 29 = .ok (.ireturn, 1) := by decide +kernel
theorem dX7_down_30 : decode cX7_down 30 = .ok (.iload_n 2, 1) := by decide +kernel
theorem dX7_down_31 : decode cX7_down 31 = .ok (.iconst 1, 1) := by decide +kernel
theorem dX7_down_32 : decode cX7_down 32 = .ok (.if_icmp .lt 9, 3) := by decide +kernel
theorem dX7_down_35 : decode cX7_down 35 = .ok (.iload_n 2, 1) := by decide +kernel
theorem dX7_down_36 : decode cX7_down 36 = .ok (.bipush 20, 2) := by decide +kernel
theorem dX7_down_38 : decode cX7_down 38 = .ok (.if_icmp .le 6, 3) := by decide +kernel
theorem dX7_down_41 : decode cX7_down 41 = .ok (.ldc 90, 2) := by decide +kernel
theorem dX7_down_43 : decode cX7_down 43 = .ok (.ireturn, 1) := by decide +kernel
theorem dX7_down_44 : decode cX7_down 44 = .ok (.aload_n 0, 1) := by decide +kernel
theorem dX7_down_45 : decode cX7_down 45 = .ok (.getfield 41, 3) := by decide +kernel
theorem dX7_down_48 : decode cX7_down 48 = .ok (.getfield 114, 3) := by decide +kernel
theorem dX7_down_51 : decode cX7_down 51 = .ok (.bipush 32, 2) := by decide +kernel
theorem dX7_down_53 : decode cX7_down 53 = .ok (.if_icmp .lt 6, 3) := by decide +kernel
theorem dX7_down_56 : decode cX7_down 56 = .ok (.ldc 94, 2) := by decide +kernel
theorem dX7_down_58 : decode cX7_down 58 = .ok (.ireturn, 1) := by decide +kernel
theorem dX7_down_59 : decode cX7_down 59 = .ok (.aload_n 0, 1) := by decide +kernel
theorem dX7_down_60 : decode cX7_down 60 = .ok (.iload_n 2, 1) := by decide +kernel
theorem dX7_down_61 : decode cX7_down 61 = .ok (.invokevirtual 202, 3) := by decide +kernel
theorem dX7_down_64 : decode cX7_down 64 = .ok (.aload_n 0, 1) := by decide +kernel
theorem dX7_down_65 : decode cX7_down 65 = .ok (.getfield 45, 3) := by decide +kernel
theorem dX7_down_68 : decode cX7_down 68 = .ok (.aload_n 0, 1) := by decide +kernel
theorem dX7_down_69 : decode cX7_down 69 = .ok (.getfield 41, 3) := by decide +kernel
theorem dX7_down_72 : decode cX7_down 72 = .ok (.invokevirtual 206, 3) := by decide +kernel
theorem dX7_down_75 : decode cX7_down 75 = .ok (.aload_n 0, 1) := by decide +kernel
theorem dX7_down_76 : decode cX7_down 76 = .ok (.getfield 45, 3) := by decide +kernel
theorem dX7_down_79 : decode cX7_down 79 = .ok (.iload_n 1, 1) := by decide +kernel
theorem dX7_down_80 : decode cX7_down 80 = .ok (.iconst (-1), 1) := by decide +kernel
theorem dX7_down_81 : decode cX7_down 81 = .ok (.invokevirtual 186, 3) := by decide +kernel
theorem dX7_down_84 : decode cX7_down 84 = .ok (.pop, 1) := by decide +kernel
theorem dX7_down_85 : decode cX7_down 85 = .ok (.aload_n 0, 1) := by decide +kernel
theorem dX7_down_86 : decode cX7_down 86 = .ok (.getfield 45, 3) := by decide +kernel
theorem dX7_down_89 : decode cX7_down 89 = .ok (.iload_n 2, 1) := by decide +kernel
theorem dX7_down_90 : decode cX7_down 90 = .ok (.iconst 0, 1) := by decide +kernel
theorem dX7_down_91 : decode cX7_down 91 = .ok (.invokevirtual 195, 3) := by decide +kernel
theorem dX7_down_94 : decode cX7_down 94 = .ok (.pop, 1) := by decide +kernel
theorem dX7_down_95 : decode cX7_down 95 = .ok (.iconst 0, 1) := by decide +kernel
theorem dX7_down_96 : decode cX7_down 96 = .ok (.istore 4, 2) := by decide +kernel
theorem dX7_down_98 : decode cX7_down 98 = .ok (.iconst 0, 1) := by decide +kernel
theorem dX7_down_99 : decode cX7_down 99 = .ok (.istore 5, 2) := by decide +kernel
theorem dX7_down_101 : decode cX7_down 101 = .ok (.iload 5, 2) := by decide +kernel
theorem dX7_down_103 : decode cX7_down 103 = .ok (.aload_n 0, 1) := by decide +kernel
theorem dX7_down_104 : decode cX7_down 104 = .ok (.getfield 20, 3) := by decide +kernel
theorem dX7_down_107 : decode cX7_down 107 = .ok (.getfield 120, 3) := by decide +kernel
theorem dX7_down_110 : decode cX7_down 110 = .ok (.if_icmp .ge 42, 3) := by decide +kernel
theorem dX7_down_113 : decode cX7_down 113 = .ok (.iload_n 3, 1) := by decide +kernel
theorem dX7_down_114 : decode cX7_down 114 = .ok (.iconst (-1), 1) := by decide +kernel
theorem dX7_down_115 : decode cX7_down 115 = .ok (.if_icmp .eq 9, 3) := by decide +kernel
theorem dX7_down_118 : decode cX7_down 118 = .ok (.iload_n 3, 1) := by decide +kernel
theorem dX7_down_119 : decode cX7_down 119 = .ok (.iload 5, 2) := by decide +kernel
theorem dX7_down_121 : decode cX7_down 121 = .ok (.if_icmp .ne 25, 3) := by decide +kernel
theorem dX7_down_124 : decode cX7_down 124 = .ok (.iload 4, 2) := by decide +kernel
theorem dX7_down_126 : decode cX7_down 126 = .ok (.aload_n 0, 1) := by decide +kernel
theorem dX7_down_127 : decode cX7_down 127 = .ok (.getfield 45, 3) := by decide +kernel
theorem dX7_down_130 : decode cX7_down 130 = .ok (.iload 5, 2) := by decide +kernel
theorem dX7_down_132 : decode cX7_down 132 = .ok (.invokevirtual 143, 3) := by decide +kernel
theorem dX7_down_135 : decode cX7_down 135 = .ok (.aload_n 0, 1) := by decide +kernel
theorem dX7_down_136 : decode cX7_down 136 = .ok (.getfield 86, 3) := by decide +kernel
theorem dX7_down_139 : decode cX7_down 139 = .ok (.iload 5, 2) := by decide +kernel
theorem dX7_down_141 : decode cX7_down 141 = .ok (.iaload, 1) := by decide +kernel
theorem dX7_down_142 : decode cX7_down 142 = .ok (.isub, 1) := by decide +kernel
theorem dX7_down_143 : decode cX7_down 143 = .ok (.iadd, 1) := by decide +kernel
theorem dX7_down_144 : decode cX7_down 144 = .ok (.istore 4, 2) := by decide +kernel
theorem dX7_down_146 : decode cX7_down 146 = .ok (.iinc 5 1, 3) := by decide +kernel
theorem dX7_down_149 : decode cX7_down 149 = .ok (.goto (-48), 3) := by decide +kernel
theorem dX7_down_152 : decode cX7_down 152 = .ok (.iload 4, 2) := by decide +kernel
theorem dX7_down_154 : decode cX7_down 154 = .ok (.ireturn, 1) := by decide +kernel
theorem dX7_chain_0 : decode cX7_chain 0 = .ok (.aload_n 0, 1) := by decide +kernel
theorem dX7_chain_1 : decode cX7_chain 1 = .ok (.getfield 20, 3) := by decide +kernel
theorem dX7_chain_4 : decode cX7_chain 4 = .ok (.iload_n 1, 1) := by decide +kernel
theorem dX7_chain_5 : decode cX7_chain 5 = .ok (.invokevirtual 133, 3) := by decide +kernel
theorem dX7_chain_8 : decode cX7_chain 8 = .ok (.ifCond .eq 14, 3) := by decide +kernel
theorem dX7_chain_11 : decode cX7_chain 11 = .ok (.aload_n 0, 1) := by decide +kernel
theorem dX7_chain_12 : decode cX7_chain 12 = .ok (.getfield 20, 3) := by decide +kernel
theorem dX7_chain_15 : decode cX7_chain 15 = .ok (.iload_n 2, 1) := by decide +kernel
theorem dX7_chain_16 : decode cX7_chain 16 = .ok (.invokevirtual 153, 3) := by decide +kernel
theorem dX7_chain_19 : decode cX7_chain 19 = .ok (.ifCond .ne 6, 3) := by decide +kernel
theorem dX7_chain_22 : decode cX7_chain 22 = .ok (.ldc 136, 2) := by decide +kernel
theorem dX7_chain_24 : decode cX7_chain 24 = .ok (.ireturn, 1) := by decide +kernel
theorem dX7_chain_25 : decode cX7_chain 25 = .ok (.aload_n 0, 1) := by decide +kernel
theorem dX7_chain_26 : decode cX7_chain 26 = .ok (.getfield 68, 3) := by decide +kernel
theorem dX7_chain_29 : decode cX7_chain 29 = .ok (.iload_n 1, 1) := by decide +kernel
theorem dX7_chain_30 : decode cX7_chain 30 = .ok (.iload_n 2, 1) := by decide +kernel
theorem dX7_chain_31 : decode cX7_chain 31 = .ok (.invokevirtual 208, 3) := by decide +kernel
theorem dX7_chain_34 : decode cX7_chain 34 = .ok (.ireturn, 1) := by decide +kernel
theorem dX7_rings_0 : decode cX7_rings 0 = .ok (.iload_n 1, 1) := by decide +kernel
theorem dX7_rings_1 : decode cX7_rings 1 = .ok (.iconst (-1), 1) := by decide +kernel
theorem dX7_rings_2 : decode cX7_rings 2 = .ok (.if_icmp .eq 17, 3) := by decide +kernel
theorem dX7_rings_5 : decode cX7_rings 5 = .ok (.aload_n 0, 1) := by decide +kernel
theorem dX7_rings_6 : decode cX7_rings 6 = .ok (.getfield 20, 3) := by decide +kernel
theorem dX7_rings_9 : decode cX7_rings 9 = .ok (.iload_n 1, 1) := by decide +kernel
theorem dX7_rings_10 : decode cX7_rings 10 = .ok (.invokevirtual 133, 3) := by decide +kernel
theorem dX7_rings_13 : decode cX7_rings 13 = .ok (.ifCond .ne 6, 3) := by decide +kernel
theorem dX7_rings_16 : decode cX7_rings 16 = .ok (.ldc 136, 2) := by decide +kernel
theorem dX7_rings_18 : decode cX7_rings 18 = .ok (.ireturn, 1) := by decide +kernel
theorem dX7_rings_19 : decode cX7_rings 19 = .ok (.iload_n 2, 1) := by decide +kernel
theorem dX7_rings_20 : decode cX7_rings 20 = .ok (.ifCond .lt 8, 3) := by decide +kernel
theorem dX7_rings_23 : decode cX7_rings 23 = .ok (.iload_n 2, 1) := by decide +kernel
theorem dX7_rings_24 : decode cX7_rings 24 = .ok (.iconst 1, 1) := by decide +kernel
theorem dX7_rings_25 : decode cX7_rings 25 = .ok (.if_icmp .le 6, 3) := by decide +kernel
theorem dX7_rings_28 : decode cX7_rings 28 = .ok (.ldc 90, 2) := by decide +kernel
theorem dX7_rings_30 : decode cX7_rings 30 = .ok (.ireturn, 1) := by decide +kernel
theorem dX7_rings_31 : decode cX7_rings 31 = .ok (.aload_n 0, 1) := by decide +kernel
theorem dX7_rings_32 : decode cX7_rings 32 = .ok (.getfield 75, 3) := by decide +kernel
theorem dX7_rings_35 : decode cX7_rings 35 = .ok (.invokevirtual 211, 3) := by decide +kernel
theorem dX7_rings_38 : decode cX7_rings 38 = .ok (.iload_n 1, 1) := by decide +kernel
theorem dX7_rings_39 : decode cX7_rings 39 = .ok (.iconst (-1), 1) := by decide +kernel
theorem dX7_rings_40 : decode cX7_rings 40 = .ok (.if_icmp .ne 11, 3) := by decide +kernel
theorem dX7_rings_43 : decode cX7_rings 43 = .ok (.aload_n 0, 1) := by decide +kernel
theorem dX7_rings_44 : decode cX7_rings 44 = .ok (.getfield 75, 3) := by decide +kernel
theorem dX7_rings_47 : decode cX7_rings 47 = .ok (.getfield 214, 3) := by decide +kernel
theorem dX7_rings_50 : decode cX7_rings 50 = .ok (.ireturn, 1) := by decide +kernel
theorem dX7_rings_51 : decode cX7_rings 51 = .ok (.iload_n 2, 1) := by decide +kernel
theorem dX7_rings_52 : decode cX7_rings 52 = .ok (.ifCond .ne 15, 3) := by decide +kernel
theorem dX7_rings_55 : decode cX7_rings 55 = .ok (.aload_n 0, 1) := by decide +kernel
theorem dX7_rings_56 : decode cX7_rings 56 = .ok (.getfield 75, 3) := by decide +kernel
theorem dX7_rings_59 : decode cX7_rings 59 = .ok (.getfield 217, 3) := by decide +kernel
theorem dX7_rings_62 : decode cX7_rings 62 = .ok (.iload_n 1, 1) := by decide +kernel
theorem dX7_rings_63 : decode cX7_rings 63 = .ok (.iaload, 1) := by decide +kernel
theorem dX7_rings_64 : decode cX7_rings 64 = .ok (.goto 11, 3) := by decide +kernel
theorem dX7_rings_67 : decode cX7_rings 67 = .ok (.aload_n 0, 1) := by decide +kernel
theorem dX7_rings_68 : decode cX7_rings 68 = .ok (.getfield 75, 3) := by decide +kernel
theorem dX7_rings_71 : decode cX7_rings 71 = .ok (.iload_n 1, 1) := by decide +kernel
theorem dX7_rings_72 : decode cX7_rings 72 = .ok (.invokevirtual 220, 3) := by decide +kernel
theorem dX7_rings_75 : decode cX7_rings 75 = .ok (.ireturn, 1) := by decide +kernel
theorem dX7_odds_0 : decode cX7_odds 0 = .ok (.aload_n 0, 1) := by decide +kernel
theorem dX7_odds_1 : decode cX7_odds 1 = .ok (.getfield 20, 3) := by decide +kernel
theorem dX7_odds_4 : decode cX7_odds 4 = .ok (.iload_n 1, 1) := by decide +kernel
theorem dX7_odds_5 : decode cX7_odds 5 = .ok (.invokevirtual 153, 3) := by decide +kernel
theorem dX7_odds_8 : decode cX7_odds 8 = .ok (.ifCond .ne 6, 3) := by decide +kernel
theorem dX7_odds_11 : decode cX7_odds 11 = .ok (.ldc 136, 2) := by decide +kernel
theorem dX7_odds_13 : decode cX7_odds 13 = .ok (.ireturn, 1) := by decide +kernel
theorem dX7_odds_14 : decode cX7_odds 14 = .ok (.iload_n 2, 1) := by decide +kernel
theorem dX7_odds_15 : decode cX7_odds 15 = .ok (.ifCond .lt 9, 3) := by decide +kernel
theorem dX7_odds_18 : decode cX7_odds 18 = .ok (.iload_n 2, 1) := by decide +kernel
theorem dX7_odds_19 : decode cX7_odds 19 = .ok (.bipush 60, 2) := by decide +kernel
theorem dX7_odds_21 : decode cX7_odds 21 = .ok (.if_icmp .le 6, 3) := by decide +kernel
theorem dX7_odds_24 : decode cX7_odds 24 = .ok (.ldc 90, 2) := by decide +kernel
theorem dX7_odds_26 : decode cX7_odds 26 = .ok (.ireturn, 1) := by decide +kernel
theorem dX7_odds_27 : decode cX7_odds 27 = .ok (.ldc2_w 223, 3) := by decide +kernel
theorem dX7_odds_30 : decode cX7_odds 30 = .ok (.lstore_n 3, 1) := by decide +kernel
theorem dX7_odds_31 : decode cX7_odds 31 = .ok (.iconst 0, 1) := by decide +kernel
theorem dX7_odds_32 : decode cX7_odds 32 = .ok (.istore 5, 2) := by decide +kernel
theorem dX7_odds_34 : decode cX7_odds 34 = .ok (.iload 5, 2) := by decide +kernel
theorem dX7_odds_36 : decode cX7_odds 36 = .ok (.iload_n 2, 1) := by decide +kernel
theorem dX7_odds_37 : decode cX7_odds 37 = .ok (.if_icmp .ge 18, 3) := by decide +kernel
theorem dX7_odds_40 : decode cX7_odds 40 = .ok (.aload_n 0, 1) := by decide +kernel
theorem dX7_odds_41 : decode cX7_odds 41 = .ok (.getfield 20, 3) := by decide +kernel
theorem dX7_odds_44 : decode cX7_odds 44 = .ok (.lload_n 3, 1) := by decide +kernel
theorem dX7_odds_45 : decode cX7_odds 45 = .ok (.invokevirtual 225, 3) := by decide +kernel
theorem dX7_odds_48 : decode cX7_odds 48 = .ok (.lstore_n 3, 1) := by decide +kernel
theorem dX7_odds_49 : decode cX7_odds 49 = .ok (.iinc 5 1, 3) := by decide +kernel
theorem dX7_odds_52 : decode cX7_odds 52 = .ok (.goto (-18), 3) := by decide +kernel
theorem dX7_odds_55 : decode cX7_odds 55 = .ok (.ldc2_w 223, 3) := by decide +kernel
theorem dX7_odds_58 : decode cX7_odds 58 = .ok (.lload_n 3, 1) := by decide +kernel
theorem dX7_odds_59 : decode cX7_odds 59 = .ok (.lsub, 1) := by decide +kernel
theorem dX7_odds_60 : decode cX7_odds 60 = .ok (.l2i, 1) := by decide +kernel
theorem dX7_odds_61 : decode cX7_odds 61 = .ok (.ireturn, 1) := by decide +kernel
theorem dX7_waits_0 : decode cX7_waits 0 = .ok (.aload_n 0, 1) := by decide +kernel
theorem dX7_waits_1 : decode cX7_waits 1 = .ok (.getfield 20, 3) := by decide +kernel
theorem dX7_waits_4 : decode cX7_waits 4 = .ok (.iload_n 1, 1) := by decide +kernel
theorem dX7_waits_5 : decode cX7_waits 5 = .ok (.invokevirtual 133, 3) := by decide +kernel
theorem dX7_waits_8 : decode cX7_waits 8 = .ok (.ifCond .eq 14, 3) := by decide +kernel
theorem dX7_waits_11 : decode cX7_waits 11 = .ok (.aload_n 0, 1) := by decide +kernel
theorem dX7_waits_12 : decode cX7_waits 12 = .ok (.getfield 20, 3) := by decide +kernel
theorem dX7_waits_15 : decode cX7_waits 15 = .ok (.iload_n 2, 1) := by decide +kernel
theorem dX7_waits_16 : decode cX7_waits 16 = .ok (.invokevirtual 153, 3) := by decide +kernel
theorem dX7_waits_19 : decode cX7_waits 19 = .ok (.ifCond .ne 6, 3) := by decide +kernel
theorem dX7_waits_22 : decode cX7_waits 22 = .ok (.ldc 136, 2) := by decide +kernel
theorem dX7_waits_24 : decode cX7_waits 24 = .ok (.ireturn, 1) := by decide +kernel
theorem dX7_waits_25 : decode cX7_waits 25 = .ok (.iload_n 3, 1) := by decide +kernel
theorem dX7_waits_26 : decode cX7_waits 26 = .ok (.ifCond .lt 9, 3) := by decide +kernel
theorem dX7_waits_29 : decode cX7_waits 29 = .ok (.iload_n 3, 1) := by decide +kernel
theorem dX7_waits_30 : decode cX7_waits 30 = .ok (.bipush 99, 2) := by decide +kernel
theorem dX7_waits_32 : decode cX7_waits 32 = .ok (.if_icmp .le 6, 3) := by decide +kernel
theorem dX7_waits_35 : decode cX7_waits 35 = .ok (.ldc 90, 2) := by decide +kernel
theorem dX7_waits_37 : decode cX7_waits 37 = .ok (.ireturn, 1) := by decide +kernel
theorem dX7_waits_38 : decode cX7_waits 38 = .ok (.aload_n 0, 1) := by decide +kernel
theorem dX7_waits_39 : decode cX7_waits 39 = .ok (.getfield 41, 3) := by decide +kernel
theorem dX7_waits_42 : decode cX7_waits 42 = .ok (.iload_n 1, 1) := by decide +kernel
theorem dX7_waits_43 : decode cX7_waits 43 = .ok (.iload_n 2, 1) := by decide +kernel
theorem dX7_waits_44 : decode cX7_waits 44 = .ok (.invokevirtual 199, 3) := by decide +kernel
theorem dX7_waits_47 : decode cX7_waits 47 = .ok (.i2l, 1) := by decide +kernel
theorem dX7_waits_48 : decode cX7_waits 48 = .ok (.lstore 4, 2) := by decide +kernel
theorem dX7_waits_50 : decode cX7_waits 50 = .ok (.aload_n 0, 1) := by decide +kernel
theorem dX7_waits_51 : decode cX7_waits 51 = .ok (.getfield 41, 3) := by decide +kernel
theorem dX7_waits_54 : decode cX7_waits 54 = .ok (.iload_n 1, 1) := by decide +kernel
theorem dX7_waits_55 : decode cX7_waits 55 = .ok (.invokevirtual 229, 3) := by decide +kernel
theorem dX7_waits_58 : decode cX7_waits 58 = .ok (.i2l, 1) := by decide +kernel
theorem dX7_waits_59 : decode cX7_waits 59 = .ok (.lstore 6, 2) := by decide +kernel
theorem dX7_waits_61 : decode cX7_waits 61 = .ok (.ldc2_w 223, 3) := by decide +kernel
theorem dX7_waits_64 : decode cX7_waits 64 = .ok (.lstore 8, 2) := by decide +kernel
theorem dX7_waits_66 : decode cX7_waits 66 = .ok (.iconst (-1), 1) := by decide +kernel
theorem dX7_waits_67 : decode cX7_waits 67 = .ok (.istore 10, 2) := by decide +kernel
theorem dX7_waits_69 : decode cX7_waits 69 = .ok (.iconst 0, 1) := by decide +kernel
theorem dX7_waits_70 : decode cX7_waits 70 = .ok (.istore 11, 2) := by decide +kernel
theorem dX7_waits_72 : decode cX7_waits 72 = .ok (.iload 11, 2) := by decide +kernel
theorem dX7_waits_74 : decode cX7_waits 74 = .ok (.bipush 60, 2) := by decide +kernel
theorem dX7_waits_76 : decode cX7_waits 76 = .ok (.if_icmp .gt 58, 3) := by decide +kernel
theorem dX7_waits_79 : decode cX7_waits 79 = .ok (.lload 4, 2) := by decide +kernel
theorem dX7_waits_81 : decode cX7_waits 81 = .ok (.ldc2_w 223, 3) := by decide +kernel
theorem dX7_waits_84 : decode cX7_waits 84 = .ok (.lload 8, 2) := by decide +kernel
theorem dX7_waits_86 : decode cX7_waits 86 = .ok (.lsub, 1) := by decide +kernel
theorem dX7_waits_87 : decode cX7_waits 87 = .ok (.lmul, 1) := by decide +kernel
theorem dX7_waits_88 : decode cX7_waits 88 = .ok (.ldc2_w 223, 3) := by decide +kernel
theorem dX7_waits_91 : decode cX7_waits 91 = .ok (.ldiv, 1) := by decide +kernel
theorem dX7_waits_92 : decode cX7_waits 92 = .ok (.iload 11, 2) := by decide +kernel
theorem dX7_waits_94 : decode cX7_waits 94 = .ok (.i2l, 1) := by decide +kernel
theorem dX7_waits_95 : decode cX7_waits 95 = .ok (.iload_n 3, 1) := by decide +kernel
theorem dX7_waits_96 : decode cX7_waits 96 = .ok (.i2l, 1) := by decide +kernel
theorem dX7_waits_97 : decode cX7_waits 97 = .ok (.lmul, 1) := by decide +kernel
theorem dX7_waits_98 : decode cX7_waits 98 = .ok (.lsub, 1) := by decide +kernel
theorem dX7_waits_99 : decode cX7_waits 99 = .ok (.lstore 12, 2) := by decide +kernel
theorem dX7_waits_101 : decode cX7_waits 101 = .ok (.lload 12, 2) := by decide +kernel
theorem dX7_waits_103 : decode cX7_waits 103 = .ok (.lload 6, 2) := by decide +kernel
theorem dX7_waits_105 : decode cX7_waits 105 = .ok (.lcmp, 1) := by decide +kernel
theorem dX7_waits_106 : decode cX7_waits 106 = .ok (.ifCond .le 11, 3) := by decide +kernel
theorem dX7_waits_109 : decode cX7_waits 109 = .ok (.lload 12, 2) := by decide +kernel
theorem dX7_waits_111 : decode cX7_waits 111 = .ok (.lstore 6, 2) := by decide +kernel
theorem dX7_waits_113 : decode cX7_waits 113 = .ok (.iload 11, 2) := by decide +kernel
theorem dX7_waits_115 : decode cX7_waits 115 = .ok (.istore 10, 2) := by decide +kernel
theorem dX7_waits_117 : decode cX7_waits 117 = .ok (.aload_n 0, 1) := by decide +kernel
theorem dX7_waits_118 : decode cX7_waits 118 = .ok (.getfield 20, 3) := by decide +kernel
theorem dX7_waits_121 : decode cX7_waits 121 = .ok (.lload 8, 2) := by decide +kernel
theorem dX7_waits_123 : decode cX7_waits 123 = .ok (.invokevirtual 225, 3) := by decide +kernel
theorem dX7_waits_126 : decode cX7_waits 126 = .ok (.lstore 8, 2) := by decide +kernel
theorem dX7_waits_128 : decode cX7_waits 128 = .ok (.iinc 11 1, 3) := by decide +kernel
theorem dX7_waits_131 : decode cX7_waits 131 = .ok (.goto (-59), 3) := by decide +kernel
theorem dX7_waits_134 : decode cX7_waits 134 = .ok (.iload 10, 2) := by decide +kernel
theorem dX7_waits_136 : decode cX7_waits 136 = .ok (.ireturn, 1) := by decide +kernel
theorem dX7_turnsAt_0 : decode cX7_turnsAt 0 = .ok (.aload_n 0, 1) := by decide +kernel
theorem dX7_turnsAt_1 : decode cX7_turnsAt 1 = .ok (.getfield 20, 3) := by decide +kernel
theorem dX7_turnsAt_4 : decode cX7_turnsAt 4 = .ok (.iload_n 1, 1) := by decide +kernel
theorem dX7_turnsAt_5 : decode cX7_turnsAt 5 = .ok (.invokevirtual 133, 3) := by decide +kernel
theorem dX7_turnsAt_8 : decode cX7_turnsAt 8 = .ok (.ifCond .eq 30, 3) := by decide +kernel
theorem dX7_turnsAt_11 : decode cX7_turnsAt 11 = .ok (.aload_n 0, 1) := by decide +kernel
theorem dX7_turnsAt_12 : decode cX7_turnsAt 12 = .ok (.getfield 20, 3) := by decide +kernel
theorem dX7_turnsAt_15 : decode cX7_turnsAt 15 = .ok (.iload_n 2, 1) := by decide +kernel
theorem dX7_turnsAt_16 : decode cX7_turnsAt 16 = .ok (.invokevirtual 133, 3) := by decide +kernel
theorem dX7_turnsAt_19 : decode cX7_turnsAt 19 = .ok (.ifCond .eq 19, 3) := by decide +kernel
theorem dX7_turnsAt_22 : decode cX7_turnsAt 22 = .ok (.iload_n 3, 1) := by decide +kernel
theorem dX7_turnsAt_23 : decode cX7_turnsAt 23 = .ok (.iconst (-1), 1) := by decide +kernel
theorem dX7_turnsAt_24 : decode cX7_turnsAt 24 = .ok (.if_icmp .eq 17, 3) := by decide +kernel
theorem dX7_turnsAt_27 : decode cX7_turnsAt 27 = .ok (.aload_n 0, 1) := by decide +kernel
theorem dX7_turnsAt_28 : decode cX7_turnsAt 28 = .ok (.getfield 20, 3) := by decide +kernel
theorem dX7_turnsAt_31 : decode cX7_turnsAt 31 = .ok (.iload_n 3, 1) := by decide +kernel
theorem dX7_turnsAt_32 : decode cX7_turnsAt 32 = .ok (.invokevirtual 133, 3) := by decide +kernel
theorem dX7_turnsAt_35 : decode cX7_turnsAt 35 = .ok (.ifCond .ne 6, 3) := by decide +kernel
theorem dX7_turnsAt_38 : decode cX7_turnsAt 38 = .ok (.ldc 136, 2) := by decide +kernel
theorem dX7_turnsAt_40 : decode cX7_turnsAt 40 = .ok (.ireturn, 1) := by decide +kernel
theorem dX7_turnsAt_41 : decode cX7_turnsAt 41 = .ok (.iload_n 1, 1) := by decide +kernel
theorem dX7_turnsAt_42 : decode cX7_turnsAt 42 = .ok (.iload_n 2, 1) := by decide +kernel
theorem dX7_turnsAt_43 : decode cX7_turnsAt 43 = .ok (.if_icmp .eq 13, 3) := by decide +kernel
theorem dX7_turnsAt_46 : decode cX7_turnsAt 46 = .ok (.iload_n 1, 1) := by decide +kernel
theorem dX7_turnsAt_47 : decode cX7_turnsAt 47 = .ok (.iload_n 3, 1) := by decide +kernel
theorem dX7_turnsAt_48 : decode cX7_turnsAt 48 = .ok (.if_icmp .eq 8, 3) := by decide +kernel
theorem dX7_turnsAt_51 : decode cX7_turnsAt 51 = .ok (.iload_n 2, 1) := by decide +kernel
theorem dX7_turnsAt_52 : decode cX7_turnsAt 52 = .ok (.iload_n 3, 1) := by decide +kernel
theorem dX7_turnsAt_53 : decode cX7_turnsAt 53 = .ok (.if_icmp .ne 6, 3) := by decide +kernel
theorem dX7_turnsAt_56 : decode cX7_turnsAt 56 = .ok (.ldc 136, 2) := by decide +kernel
theorem dX7_turnsAt_58 : decode cX7_turnsAt 58 = .ok (.ireturn, 1) := by decide +kernel
theorem dX7_turnsAt_59 : decode cX7_turnsAt 59 = .ok (.iload 4, 2) := by decide +kernel
theorem dX7_turnsAt_61 : decode cX7_turnsAt 61 = .ok (.ifCond .lt 20, 3) := by decide +kernel
theorem dX7_turnsAt_64 : decode cX7_turnsAt 64 = .ok (.iload 4, 2) := by decide +kernel
theorem dX7_turnsAt_66 : decode cX7_turnsAt 66 = .ok (.iconst 4, 1) := by decide +kernel
theorem dX7_turnsAt_67 : decode cX7_turnsAt 67 = .ok (.if_icmp .gt 14, 3) := by decide +kernel
theorem dX7_turnsAt_70 : decode cX7_turnsAt 70 = .ok (.iload 5, 2) := by decide +kernel
theorem dX7_turnsAt_72 : decode cX7_turnsAt 72 = .ok (.ifCond .lt 9, 3) := by decide +kernel
theorem dX7_turnsAt_75 : decode cX7_turnsAt 75 = .ok (.iload 5, 2) := by decide +kernel
theorem dX7_turnsAt_77 : decode cX7_turnsAt 77 = .ok (.iconst 1, 1) := by decide +kernel
theorem dX7_turnsAt_78 : decode cX7_turnsAt 78 = .ok (.if_icmp .le 6, 3) := by decide +kernel
theorem dX7_turnsAt_81 : decode cX7_turnsAt 81 = .ok (.ldc 90, 2) := by decide +kernel
theorem dX7_turnsAt_83 : decode cX7_turnsAt 83 = .ok (.ireturn, 1) := by decide +kernel
theorem dX7_turnsAt_84 : decode cX7_turnsAt 84 = .ok (.aload_n 0, 1) := by decide +kernel
theorem dX7_turnsAt_85 : decode cX7_turnsAt 85 = .ok (.getfield 82, 3) := by decide +kernel
theorem dX7_turnsAt_88 : decode cX7_turnsAt 88 = .ok (.iload_n 1, 1) := by decide +kernel
theorem dX7_turnsAt_89 : decode cX7_turnsAt 89 = .ok (.iload_n 2, 1) := by decide +kernel
theorem dX7_turnsAt_90 : decode cX7_turnsAt 90 = .ok (.iload_n 3, 1) := by decide +kernel
theorem dX7_turnsAt_91 : decode cX7_turnsAt 91 = .ok (.invokevirtual 232, 3) := by decide +kernel
theorem dX7_turnsAt_94 : decode cX7_turnsAt 94 = .ok (.aload_n 0, 1) := by decide +kernel
theorem dX7_turnsAt_95 : decode cX7_turnsAt 95 = .ok (.getfield 82, 3) := by decide +kernel
theorem dX7_turnsAt_98 : decode cX7_turnsAt 98 = .ok (.iload 4, 2) := by decide +kernel
theorem dX7_turnsAt_100 : decode cX7_turnsAt 100 = .ok (.invokevirtual 236, 3) := by decide +kernel
theorem dX7_turnsAt_103 : decode cX7_turnsAt 103 = .ok (.istore 6, 2) := by decide +kernel
theorem dX7_turnsAt_105 : decode cX7_turnsAt 105 = .ok (.iload 5, 2) := by decide +kernel
theorem dX7_turnsAt_107 : decode cX7_turnsAt 107 = .ok (.ifCond .ne 8, 3) := by decide +kernel
theorem dX7_turnsAt_110 : decode cX7_turnsAt 110 = .ok (.iload 6, 2) := by decide +kernel
theorem dX7_turnsAt_112 : decode cX7_turnsAt 112 = .ok (.goto 10, 3) := by decide +kernel
theorem dX7_turnsAt_115 : decode cX7_turnsAt 115 = .ok (.aload_n 0, 1) := by decide +kernel
theorem dX7_turnsAt_116 : decode cX7_turnsAt 116 = .ok (.getfield 82, 3) := by decide +kernel
theorem dX7_turnsAt_119 : decode cX7_turnsAt 119 = .ok (.getfield 239, 3) := by decide +kernel
theorem dX7_turnsAt_122 : decode cX7_turnsAt 122 = .ok (.ireturn, 1) := by decide +kernel
theorem dX7_write_0 : decode cX7_write 0 = .ok (.aload_n 0, 1) := by decide +kernel
theorem dX7_write_1 : decode cX7_write 1 = .ok (.getfield 20, 3) := by decide +kernel
theorem dX7_write_4 : decode cX7_write 4 = .ok (.iload_n 1, 1) := by decide +kernel
theorem dX7_write_5 : decode cX7_write 5 = .ok (.invokevirtual 133, 3) := by decide +kernel
theorem dX7_write_8 : decode cX7_write 8 = .ok (.ifCond .eq 14, 3) := by decide +kernel
theorem dX7_write_11 : decode cX7_write 11 = .ok (.aload_n 0, 1) := by decide +kernel
theorem dX7_write_12 : decode cX7_write 12 = .ok (.getfield 41, 3) := by decide +kernel
theorem dX7_write_15 : decode cX7_write 15 = .ok (.iload_n 2, 1) := by decide +kernel
theorem dX7_write_16 : decode cX7_write 16 = .ok (.invokevirtual 160, 3) := by decide +kernel
theorem dX7_write_19 : decode cX7_write 19 = .ok (.ifCond .ne 6, 3) := by decide +kernel
theorem dX7_write_22 : decode cX7_write 22 = .ok (.ldc 136, 2) := by decide +kernel
theorem dX7_write_24 : decode cX7_write 24 = .ok (.ireturn, 1) := by decide +kernel
theorem dX7_write_25 : decode cX7_write 25 = .ok (.aload_n 0, 1) := by decide +kernel
theorem dX7_write_26 : decode cX7_write 26 = .ok (.getfield 59, 3) := by decide +kernel
theorem dX7_write_29 : decode cX7_write 29 = .ok (.iload_n 1, 1) := by decide +kernel
theorem dX7_write_30 : decode cX7_write 30 = .ok (.iload_n 2, 1) := by decide +kernel
theorem dX7_write_31 : decode cX7_write 31 = .ok (.iload_n 3, 1) := by decide +kernel
theorem dX7_write_32 : decode cX7_write 32 = .ok (.invokevirtual 242, 3) := by decide +kernel
theorem dX7_write_35 : decode cX7_write 35 = .ok (.ifCond .eq 13, 3) := by decide +kernel
theorem dX7_write_38 : decode cX7_write 38 = .ok (.aload_n 0, 1) := by decide +kernel
theorem dX7_write_39 : decode cX7_write 39 = .ok (.getfield 59, 3) := by decide +kernel
theorem dX7_write_42 : decode cX7_write 42 = .ok (.getfield 111, 3) := by decide +kernel
theorem dX7_write_45 : decode cX7_write 45 = .ok (.goto 5, 3) := by decide +kernel
theorem dX7_write_48 : decode cX7_write 48 = .ok (.ldc 94, 2) := by decide +kernel
theorem dX7_write_50 : decode cX7_write 50 = .ok (.ireturn, 1) := by decide +kernel
theorem dX7_tear_0 : decode cX7_tear 0 = .ok (.aload_n 0, 1) := by decide +kernel
theorem dX7_tear_1 : decode cX7_tear 1 = .ok (.getfield 59, 3) := by decide +kernel
theorem dX7_tear_4 : decode cX7_tear 4 = .ok (.getfield 111, 3) := by decide +kernel
theorem dX7_tear_7 : decode cX7_tear 7 = .ok (.istore_n 1, 1) := by decide +kernel
theorem dX7_tear_8 : decode cX7_tear 8 = .ok (.aload_n 0, 1) := by decide +kernel
theorem dX7_tear_9 : decode cX7_tear 9 = .ok (.getfield 59, 3) := by decide +kernel
theorem dX7_tear_12 : decode cX7_tear 12 = .ok (.iconst 0, 1) := by decide +kernel
theorem dX7_tear_13 : decode cX7_tear 13 = .ok (.putfield 111, 3) := by decide +kernel
theorem dX7_tear_16 : decode cX7_tear 16 = .ok (.iload_n 1, 1) := by decide +kernel
theorem dX7_tear_17 : decode cX7_tear 17 = .ok (.ireturn, 1) := by decide +kernel
theorem dX7_judge_0 : decode cX7_judge 0 = .ok (.aload_n 0, 1) := by decide +kernel
theorem dX7_judge_1 : decode cX7_judge 1 = .ok (.getfield 45, 3) := by decide +kernel
theorem dX7_judge_4 : decode cX7_judge 4 = .ok (.aload_n 0, 1) := by decide +kernel
theorem dX7_judge_5 : decode cX7_judge 5 = .ok (.getfield 41, 3) := by decide +kernel
theorem dX7_judge_8 : decode cX7_judge 8 = .ok (.invokevirtual 206, 3) := by decide +kernel
theorem dX7_judge_11 : decode cX7_judge 11 = .ok (.aload_n 0, 1) := by decide +kernel
theorem dX7_judge_12 : decode cX7_judge 12 = .ok (.getfield 59, 3) := by decide +kernel
theorem dX7_judge_15 : decode cX7_judge 15 = .ok (.aload_n 0, 1) := by decide +kernel
theorem dX7_judge_16 : decode cX7_judge 16 = .ok (.getfield 45, 3) := by decide +kernel
theorem dX7_judge_19 : decode cX7_judge 19 = .ok (.invokevirtual 246, 3) := by decide +kernel
theorem dX7_judge_22 : decode cX7_judge 22 = .ok (.ireturn, 1) := by decide +kernel
theorem dX7_seed_0 : decode cX7_seed 0 = .ok (.iload_n 1, 1) := by decide +kernel
theorem dX7_seed_1 : decode cX7_seed 1 = .ok (.ifCond .ge 6, 3) := by decide +kernel
theorem dX7_seed_4 : decode cX7_seed 4 = .ok (.ldc 90, 2) := by decide +kernel
theorem dX7_seed_6 : decode cX7_seed 6 = .ok (.ireturn, 1) := by decide +kernel
theorem dX7_seed_7 : decode cX7_seed 7 = .ok (.aload_n 0, 1) := by decide +kernel
theorem dX7_seed_8 : decode cX7_seed 8 = .ok (.getfield 41, 3) := by decide +kernel
theorem dX7_seed_11 : decode cX7_seed 11 = .ok (.getfield 250, 3) := by decide +kernel
theorem dX7_seed_14 : decode cX7_seed 14 = .ok (.istore_n 2, 1) := by decide +kernel
theorem dX7_seed_15 : decode cX7_seed 15 = .ok (.aload_n 0, 1) := by decide +kernel
theorem dX7_seed_16 : decode cX7_seed 16 = .ok (.getfield 41, 3) := by decide +kernel
theorem dX7_seed_19 : decode cX7_seed 19 = .ok (.iload_n 1, 1) := by decide +kernel
theorem dX7_seed_20 : decode cX7_seed 20 = .ok (.putfield 250, 3) := by decide +kernel
theorem dX7_seed_23 : decode cX7_seed 23 = .ok (.iload_n 2, 1) := by decide +kernel
theorem dX7_seed_24 : decode cX7_seed 24 = .ok (.ireturn, 1) := by decide +kernel
theorem dX7_keep_0 : decode cX7_keep 0 = .ok (.iload_n 1, 1) := by decide +kernel
theorem dX7_keep_1 : decode cX7_keep 1 = .ok (.ifCond .lt 8, 3) := by decide +kernel
theorem dX7_keep_4 : decode cX7_keep 4 = .ok (.iload_n 1, 1) := by decide +kernel
theorem dX7_keep_5 : decode cX7_keep 5 = .ok (.iconst 2, 1) := by decide +kernel
theorem dX7_keep_6 : decode cX7_keep 6 = .ok (.if_icmp .lt 6, 3) := by decide +kernel
theorem dX7_keep_9 : decode cX7_keep 9 = .ok (.ldc 136, 2) := by decide +kernel
theorem dX7_keep_11 : decode cX7_keep 11 = .ok (.ireturn, 1) := by decide +kernel
theorem dX7_keep_12 : decode cX7_keep 12 = .ok (.aload_n 0, 1) := by decide +kernel
theorem dX7_keep_13 : decode cX7_keep 13 = .ok (.getfield 48, 3) := by decide +kernel
theorem dX7_keep_16 : decode cX7_keep 16 = .ok (.iload_n 1, 1) := by decide +kernel
theorem dX7_keep_17 : decode cX7_keep 17 = .ok (.aaload, 1) := by decide +kernel
theorem dX7_keep_18 : decode cX7_keep 18 = .ok (.aload_n 0, 1) := by decide +kernel
theorem dX7_keep_19 : decode cX7_keep 19 = .ok (.getfield 41, 3) := by decide +kernel
theorem dX7_keep_22 : decode cX7_keep 22 = .ok (.invokevirtual 206, 3) := by decide +kernel
theorem dX7_keep_25 : decode cX7_keep 25 = .ok (.aload_n 0, 1) := by decide +kernel
theorem dX7_keep_26 : decode cX7_keep 26 = .ok (.getfield 52, 3) := by decide +kernel
theorem dX7_keep_29 : decode cX7_keep 29 = .ok (.iload_n 1, 1) := by decide +kernel
theorem dX7_keep_30 : decode cX7_keep 30 = .ok (.iconst 1, 1) := by decide +kernel
theorem dX7_keep_31 : decode cX7_keep 31 = .ok (.bastore, 1) := by decide +kernel
theorem dX7_keep_32 : decode cX7_keep 32 = .ok (.iconst 1, 1) := by decide +kernel
theorem dX7_keep_33 : decode cX7_keep 33 = .ok (.ireturn, 1) := by decide +kernel
theorem dX7_goBack_0 : decode cX7_goBack 0 = .ok (.iload_n 1, 1) := by decide +kernel
theorem dX7_goBack_1 : decode cX7_goBack 1 = .ok (.ifCond .lt 8, 3) := by decide +kernel
theorem dX7_goBack_4 : decode cX7_goBack 4 = .ok (.iload_n 1, 1) := by decide +kernel
theorem dX7_goBack_5 : decode cX7_goBack 5 = .ok (.iconst 2, 1) := by decide +kernel
theorem dX7_goBack_6 : decode cX7_goBack 6 = .ok (.if_icmp .lt 6, 3) := by decide +kernel
theorem dX7_goBack_9 : decode cX7_goBack 9 = .ok (.ldc 136, 2) := by decide +kernel
theorem dX7_goBack_11 : decode cX7_goBack 11 = .ok (.ireturn, 1) := by decide +kernel
theorem dX7_goBack_12 : decode cX7_goBack 12 = .ok (.aload_n 0, 1) := by decide +kernel
theorem dX7_goBack_13 : decode cX7_goBack 13 = .ok (.getfield 52, 3) := by decide +kernel
theorem dX7_goBack_16 : decode cX7_goBack 16 = .ok (.iload_n 1, 1) := by decide +kernel
theorem dX7_goBack_17 : decode cX7_goBack 17 = .ok (.baload, 1) := by decide +kernel
theorem dX7_goBack_18 : decode cX7_goBack 18 = .ok (.ifCond .ne 6, 3) := by decide +kernel
theorem dX7_goBack_21 : decode cX7_goBack 21 = .ok (.ldc 182, 2) := by decide +kernel
theorem dX7_goBack_23 : decode cX7_goBack 23 = .ok (.ireturn, 1) := by decide +kernel
theorem dX7_goBack_24 : decode cX7_goBack 24 = .ok (.aload_n 0, 1) := by decide +kernel
theorem dX7_goBack_25 : decode cX7_goBack 25 = .ok (.getfield 41, 3) := by decide +kernel
theorem dX7_goBack_28 : decode cX7_goBack 28 = .ok (.aload_n 0, 1) := by decide +kernel
theorem dX7_goBack_29 : decode cX7_goBack 29 = .ok (.getfield 48, 3) := by decide +kernel
theorem dX7_goBack_32 : decode cX7_goBack 32 = .ok (.iload_n 1, 1) := by decide +kernel
theorem dX7_goBack_33 : decode cX7_goBack 33 = .ok (.aaload, 1) := by decide +kernel
theorem dX7_goBack_34 : decode cX7_goBack 34 = .ok (.invokevirtual 206, 3) := by decide +kernel
theorem dX7_goBack_37 : decode cX7_goBack 37 = .ok (.iconst 1, 1) := by decide +kernel
theorem dX7_goBack_38 : decode cX7_goBack 38 = .ok (.ireturn, 1) := by decide +kernel
theorem dX7_tryWithout_0 : decode cX7_tryWithout 0 = .ok (.aload_n 0, 1) := by decide +kernel
theorem dX7_tryWithout_1 : decode cX7_tryWithout 1 = .ok (.getfield 45, 3) := by decide +kernel
theorem dX7_tryWithout_4 : decode cX7_tryWithout 4 = .ok (.aload_n 0, 1) := by decide +kernel
theorem dX7_tryWithout_5 : decode cX7_tryWithout 5 = .ok (.getfield 41, 3) := by decide +kernel
theorem dX7_tryWithout_8 : decode cX7_tryWithout 8 = .ok (.invokevirtual 206, 3) := by decide +kernel
theorem dX7_tryWithout_11 : decode cX7_tryWithout 11 = .ok (.aload_n 0, 1) := by decide +kernel
theorem dX7_tryWithout_12 : decode cX7_tryWithout 12 = .ok (.getfield 45, 3) := by decide +kernel
theorem dX7_tryWithout_15 : decode cX7_tryWithout 15 = .ok (.iload_n 1, 1) := by decide +kernel
theorem dX7_tryWithout_16 : decode cX7_tryWithout 16 = .ok (.iconst 0, 1) := by decide +kernel
theorem dX7_tryWithout_17 : decode cX7_tryWithout 17 = .ok (.invokevirtual 195, 3) := by decide +kernel
theorem dX7_tryWithout_20 : decode cX7_tryWithout 20 = .ok (.pop, 1) := by decide +kernel
theorem dX7_tryWithout_21 : decode cX7_tryWithout 21 = .ok (.iconst 0, 1) := by decide +kernel
theorem dX7_tryWithout_22 : decode cX7_tryWithout 22 = .ok (.istore_n 2, 1) := by decide +kernel
theorem dX7_tryWithout_23 : decode cX7_tryWithout 23 = .ok (.iload_n 2, 1) := by decide +kernel
theorem dX7_tryWithout_24 : decode cX7_tryWithout 24 = .ok (.aload_n 0, 1) := by decide +kernel
theorem dX7_tryWithout_25 : decode cX7_tryWithout 25 = .ok (.getfield 20, 3) := by decide +kernel
theorem dX7_tryWithout_28 : decode cX7_tryWithout 28 = .ok (.getfield 120, 3) := by decide +kernel
theorem dX7_tryWithout_31 : decode cX7_tryWithout 31 = .ok (.if_icmp .ge 23, 3) := by decide +kernel
theorem dX7_tryWithout_34 : decode cX7_tryWithout 34 = .ok (.aload_n 0, 1) := by decide +kernel
theorem dX7_tryWithout_35 : decode cX7_tryWithout 35 = .ok (.getfield 86, 3) := by decide +kernel
theorem dX7_tryWithout_38 : decode cX7_tryWithout 38 = .ok (.iload_n 2, 1) := by decide +kernel
theorem dX7_tryWithout_39 : decode cX7_tryWithout 39 = .ok (.aload_n 0, 1) := by decide +kernel
theorem dX7_tryWithout_40 : decode cX7_tryWithout 40 = .ok (.getfield 45, 3) := by decide +kernel
theorem dX7_tryWithout_43 : decode cX7_tryWithout 43 = .ok (.iload_n 2, 1) := by decide +kernel
theorem dX7_tryWithout_44 : decode cX7_tryWithout 44 = .ok (.invokevirtual 143, 3) := by decide +kernel
theorem dX7_tryWithout_47 : decode cX7_tryWithout 47 = .ok (.iastore, 1) := by decide +kernel
theorem dX7_tryWithout_48 : decode cX7_tryWithout 48 = .ok (.iinc 2 1, 3) := by decide +kernel
theorem dX7_tryWithout_51 : decode cX7_tryWithout 51 = .ok (.goto (-28), 3) := by decide +kernel
theorem dX7_tryWithout_54 : decode cX7_tryWithout 54 = .ok (.return_, 1) := by decide +kernel
theorem dL_law_0 : decode cL_law 0 = .ok (.new 7, 3) := by decide +kernel
theorem dL_law_3 : decode cL_law 3 = .ok (.dup, 1) := by decide +kernel
theorem dL_law_4 : decode cL_law 4 = .ok (.invokespecial 9, 3) := by decide +kernel
theorem dL_law_7 : decode cL_law 7 = .ok (.astore_n 1, 1) := by decide +kernel
theorem dL_law_8 : decode cL_law 8 = .ok (.new 10, 3) := by decide +kernel
theorem dL_law_11 : decode cL_law 11 = .ok (.dup, 1) := by decide +kernel
theorem dL_law_12 : decode cL_law 12 = .ok (.invokespecial 12, 3) := by decide +kernel
theorem dL_law_15 : decode cL_law 15 = .ok (.astore_n 2, 1) := by decide +kernel
theorem dL_law_16 : decode cL_law 16 = .ok (.iconst 0, 1) := by decide +kernel
theorem dL_law_17 : decode cL_law 17 = .ok (.istore_n 3, 1) := by decide +kernel
theorem dL_law_18 : decode cL_law 18 = .ok (.iload_n 3, 1) := by decide +kernel
theorem dL_law_19 : decode cL_law 19 = .ok (.aload_n 0, 1) := by decide +kernel
theorem dL_law_20 : decode cL_law 20 = .ok (.arraylength, 1) := by decide +kernel
theorem dL_law_21 : decode cL_law 21 = .ok (.bipush 6, 2) := by decide +kernel
theorem dL_law_23 : decode cL_law 23 = .ok (.isub, 1) := by decide +kernel
theorem dL_law_24 : decode cL_law 24 = .ok (.if_icmp .gt 992, 3) := by decide +kernel
theorem dL_law_27 : decode cL_law 27 = .ok (.aload_n 0, 1) := by decide +kernel
theorem dL_law_28 : decode cL_law 28 = .ok (.iload_n 3, 1) := by decide +kernel
theorem dL_law_29 : decode cL_law 29 = .ok (.iaload, 1) := by decide +kernel
theorem dL_law_30 : decode cL_law 30 = .ok (.bipush 31, 2) := by decide +kernel
theorem dL_law_32 : decode cL_law 32 = .ok (.iand, 1) := by decide +kernel
theorem dL_law_33 : decode cL_law 33 = .ok (.tableswitch 977 0 27 #[127, 190, 203, 216, 239, 272, 305, 338, 371, 404, 437, 460, 483, 506, 529, 542, 575, 618, 651, 684, 717, 760, 823, 882, 895, 908, 931, 954], 127) := by decide +kernel
theorem dL_law_160 : decode cL_law 160 = .ok (.aload_n 1, 1) := by decide +kernel
theorem dL_law_161 : decode cL_law 161 = .ok (.aload_n 0, 1) := by decide +kernel
theorem dL_law_162 : decode cL_law 162 = .ok (.iload_n 3, 1) := by decide +kernel
theorem dL_law_163 : decode cL_law 163 = .ok (.iconst 1, 1) := by decide +kernel
theorem dL_law_164 : decode cL_law 164 = .ok (.iadd, 1) := by decide +kernel
theorem dL_law_165 : decode cL_law 165 = .ok (.iaload, 1) := by decide +kernel
theorem dL_law_166 : decode cL_law 166 = .ok (.aload_n 0, 1) := by decide +kernel
theorem dL_law_167 : decode cL_law 167 = .ok (.iload_n 3, 1) := by decide +kernel
theorem dL_law_168 : decode cL_law 168 = .ok (.iconst 2, 1) := by decide +kernel
theorem dL_law_169 : decode cL_law 169 = .ok (.iadd, 1) := by decide +kernel
theorem dL_law_170 : decode cL_law 170 = .ok (.iaload, 1) := by decide +kernel
theorem dL_law_171 : decode cL_law 171 = .ok (.i2l, 1) := by decide +kernel
theorem dL_law_172 : decode cL_law 172 = .ok (.bipush 32, 2) := by decide +kernel
theorem dL_law_174 : decode cL_law 174 = .ok (.lshl, 1) := by decide +kernel
theorem dL_law_175 : decode cL_law 175 = .ok (.aload_n 0, 1) := by decide +kernel
theorem dL_law_176 : decode cL_law 176 = .ok (.iload_n 3, 1) := by decide +kernel
theorem dL_law_177 : decode cL_law 177 = .ok (.iconst 3, 1) := by decide +kernel
theorem dL_law_178 : decode cL_law 178 = .ok (.iadd, 1) := by decide +kernel
theorem dL_law_179 : decode cL_law 179 = .ok (.iaload, 1) := by decide +kernel
theorem dL_law_180 : decode cL_law 180 = .ok (.i2l, 1) := by decide +kernel
theorem dL_law_181 : decode cL_law 181 = .ok (.ldc2_w 13, 3) := by decide +kernel
theorem dL_law_184 : decode cL_law 184 = .ok (.land, 1) := by decide +kernel
theorem dL_law_185 : decode cL_law 185 = .ok (.lor, 1) := by decide +kernel
theorem dL_law_186 : decode cL_law 186 = .ok (.invokevirtual 15, 3) := by decide +kernel
theorem dL_law_189 : decode cL_law 189 = .ok (.aload_n 2, 1) := by decide +kernel
theorem dL_law_190 : decode cL_law 190 = .ok (.aload_n 0, 1) := by decide +kernel
theorem dL_law_191 : decode cL_law 191 = .ok (.iload_n 3, 1) := by decide +kernel
theorem dL_law_192 : decode cL_law 192 = .ok (.iconst 1, 1) := by decide +kernel
theorem dL_law_193 : decode cL_law 193 = .ok (.iadd, 1) := by decide +kernel
theorem dL_law_194 : decode cL_law 194 = .ok (.iaload, 1) := by decide +kernel
theorem dL_law_195 : decode cL_law 195 = .ok (.aload_n 0, 1) := by decide +kernel
theorem dL_law_196 : decode cL_law 196 = .ok (.iload_n 3, 1) := by decide +kernel
theorem dL_law_197 : decode cL_law 197 = .ok (.iconst 2, 1) := by decide +kernel
theorem dL_law_198 : decode cL_law 198 = .ok (.iadd, 1) := by decide +kernel
theorem dL_law_199 : decode cL_law 199 = .ok (.iaload, 1) := by decide +kernel
theorem dL_law_200 : decode cL_law 200 = .ok (.i2l, 1) := by decide +kernel
theorem dL_law_201 : decode cL_law 201 = .ok (.bipush 32, 2) := by decide +kernel
theorem dL_law_203 : decode cL_law 203 = .ok (.lshl, 1) := by decide +kernel
theorem dL_law_204 : decode cL_law 204 = .ok (.aload_n 0, 1) := by decide +kernel
theorem dL_law_205 : decode cL_law 205 = .ok (.iload_n 3, 1) := by decide +kernel
theorem dL_law_206 : decode cL_law 206 = .ok (.iconst 3, 1) := by decide +kernel
theorem dL_law_207 : decode cL_law 207 = .ok (.iadd, 1) := by decide +kernel
theorem dL_law_208 : decode cL_law 208 = .ok (.iaload, 1) := by decide +kernel
theorem dL_law_209 : decode cL_law 209 = .ok (.i2l, 1) := by decide +kernel
theorem dL_law_210 : decode cL_law 210 = .ok (.ldc2_w 13, 3) := by decide +kernel
theorem dL_law_213 : decode cL_law 213 = .ok (.land, 1) := by decide +kernel
theorem dL_law_214 : decode cL_law 214 = .ok (.lor, 1) := by decide +kernel
theorem dL_law_215 : decode cL_law 215 = .ok (.invokevirtual 19, 3) := by decide +kernel
theorem dL_law_218 : decode cL_law 218 = .ok (.if_icmp .eq 792, 3) := by decide +kernel
theorem dL_law_221 : decode cL_law 221 = .ok (.iconst 0, 1) := by decide +kernel
theorem dL_law_222 : decode cL_law 222 = .ok (.ireturn, 1) := by decide +kernel
theorem dL_law_223 : decode cL_law 223 = .ok (.aload_n 1, 1) := by decide +kernel
theorem dL_law_224 : decode cL_law 224 = .ok (.invokevirtual 20, 3) := by decide +kernel
theorem dL_law_227 : decode cL_law 227 = .ok (.aload_n 2, 1) := by decide +kernel
theorem dL_law_228 : decode cL_law 228 = .ok (.invokevirtual 24, 3) := by decide +kernel
theorem dL_law_231 : decode cL_law 231 = .ok (.if_icmp .eq 779, 3) := by decide +kernel
theorem dL_law_234 : decode cL_law 234 = .ok (.iconst 0, 1) := by decide +kernel
theorem dL_law_235 : decode cL_law 235 = .ok (.ireturn, 1) := by decide +kernel
theorem dL_law_236 : decode cL_law 236 = .ok (.aload_n 1, 1) := by decide +kernel
theorem dL_law_237 : decode cL_law 237 = .ok (.invokevirtual 25, 3) := by decide +kernel
theorem dL_law_240 : decode cL_law 240 = .ok (.aload_n 2, 1) := by decide +kernel
theorem dL_law_241 : decode cL_law 241 = .ok (.invokevirtual 28, 3) := by decide +kernel
theorem dL_law_244 : decode cL_law 244 = .ok (.if_icmp .eq 766, 3) := by decide +kernel
theorem dL_law_247 : decode cL_law 247 = .ok (.iconst 0, 1) := by decide +kernel
theorem dL_law_248 : decode cL_law 248 = .ok (.ireturn, 1) := by decide +kernel
theorem dL_law_249 : decode cL_law 249 = .ok (.aload_n 1, 1) := by decide +kernel
theorem dL_law_250 : decode cL_law 250 = .ok (.aload_n 0, 1) := by decide +kernel
theorem dL_law_251 : decode cL_law 251 = .ok (.iload_n 3, 1) := by decide +kernel
theorem dL_law_252 : decode cL_law 252 = .ok (.iconst 1, 1) := by decide +kernel
theorem dL_law_253 : decode cL_law 253 = .ok (.iadd, 1) := by decide +kernel
theorem dL_law_254 : decode cL_law 254 = .ok (.iaload, 1) := by decide +kernel
theorem dL_law_255 : decode cL_law 255 = .ok (.invokevirtual 29, 3) := by decide +kernel
theorem dL_law_258 : decode cL_law 258 = .ok (.aload_n 2, 1) := by decide +kernel
theorem dL_law_259 : decode cL_law 259 = .ok (.aload_n 0, 1) := by decide +kernel
theorem dL_law_260 : decode cL_law 260 = .ok (.iload_n 3, 1) := by decide +kernel
theorem dL_law_261 : decode cL_law 261 = .ok (.iconst 1, 1) := by decide +kernel
theorem dL_law_262 : decode cL_law 262 = .ok (.iadd, 1) := by decide +kernel
theorem dL_law_263 : decode cL_law 263 = .ok (.iaload, 1) := by decide +kernel
theorem dL_law_264 : decode cL_law 264 = .ok (.invokevirtual 33, 3) := by decide +kernel
theorem dL_law_267 : decode cL_law 267 = .ok (.if_icmp .eq 743, 3) := by decide +kernel
theorem dL_law_270 : decode cL_law 270 = .ok (.iconst 0, 1) := by decide +kernel
theorem dL_law_271 : decode cL_law 271 = .ok (.ireturn, 1) := by decide +kernel
theorem dL_law_272 : decode cL_law 272 = .ok (.aload_n 1, 1) := by decide +kernel
theorem dL_law_273 : decode cL_law 273 = .ok (.aload_n 0, 1) := by decide +kernel
theorem dL_law_274 : decode cL_law 274 = .ok (.iload_n 3, 1) := by decide +kernel
theorem dL_law_275 : decode cL_law 275 = .ok (.iconst 1, 1) := by decide +kernel
theorem dL_law_276 : decode cL_law 276 = .ok (.iadd, 1) := by decide +kernel
theorem dL_law_277 : decode cL_law 277 = .ok (.iaload, 1) := by decide +kernel
theorem dL_law_278 : decode cL_law 278 = .ok (.aload_n 0, 1) := by decide +kernel
theorem dL_law_279 : decode cL_law 279 = .ok (.iload_n 3, 1) := by decide +kernel
theorem dL_law_280 : decode cL_law 280 = .ok (.iconst 2, 1) := by decide +kernel
theorem dL_law_281 : decode cL_law 281 = .ok (.iadd, 1) := by decide +kernel
theorem dL_law_282 : decode cL_law 282 = .ok (.iaload, 1) := by decide +kernel
theorem dL_law_283 : decode cL_law 283 = .ok (.invokevirtual 34, 3) := by decide +kernel
theorem dL_law_286 : decode cL_law 286 = .ok (.aload_n 2, 1) := by decide +kernel
theorem dL_law_287 : decode cL_law 287 = .ok (.aload_n 0, 1) := by decide +kernel
theorem dL_law_288 : decode cL_law 288 = .ok (.iload_n 3, 1) := by decide +kernel
theorem dL_law_289 : decode cL_law 289 = .ok (.iconst 1, 1) := by decide +kernel
theorem dL_law_290 : decode cL_law 290 = .ok (.iadd, 1) := by decide +kernel
theorem dL_law_291 : decode cL_law 291 = .ok (.iaload, 1) := by decide +kernel
theorem dL_law_292 : decode cL_law 292 = .ok (.aload_n 0, 1) := by decide +kernel
theorem dL_law_293 : decode cL_law 293 = .ok (.iload_n 3, 1) := by decide +kernel
theorem dL_law_294 : decode cL_law 294 = .ok (.iconst 2, 1) := by decide +kernel
theorem dL_law_295 : decode cL_law 295 = .ok (.iadd, 1) := by decide +kernel
theorem dL_law_296 : decode cL_law 296 = .ok (.iaload, 1) := by decide +kernel
theorem dL_law_297 : decode cL_law 297 = .ok (.invokevirtual 38, 3) := by decide +kernel
theorem dL_law_300 : decode cL_law 300 = .ok (.if_icmp .eq 710, 3) := by decide +kernel
theorem dL_law_303 : decode cL_law 303 = .ok (.iconst 0, 1) := by decide +kernel
theorem dL_law_304 : decode cL_law 304 = .ok (.ireturn, 1) := by decide +kernel
theorem dL_law_305 : decode cL_law 305 = .ok (.aload_n 1, 1) := by decide +kernel
theorem dL_law_306 : decode cL_law 306 = .ok (.aload_n 0, 1) := by decide +kernel
theorem dL_law_307 : decode cL_law 307 = .ok (.iload_n 3, 1) := by decide +kernel
theorem dL_law_308 : decode cL_law 308 = .ok (.iconst 1, 1) := by decide +kernel
theorem dL_law_309 : decode cL_law 309 = .ok (.iadd, 1) := by decide +kernel
theorem dL_law_310 : decode cL_law 310 = .ok (.iaload, 1) := by decide +kernel
theorem dL_law_311 : decode cL_law 311 = .ok (.aload_n 0, 1) := by decide +kernel
theorem dL_law_312 : decode cL_law 312 = .ok (.iload_n 3, 1) := by decide +kernel
theorem dL_law_313 : decode cL_law 313 = .ok (.iconst 2, 1) := by decide +kernel
theorem dL_law_314 : decode cL_law 314 = .ok (.iadd, 1) := by decide +kernel
theorem dL_law_315 : decode cL_law 315 = .ok (.iaload, 1) := by decide +kernel
theorem dL_law_316 : decode cL_law 316 = .ok (.invokevirtual 39, 3) := by decide +kernel
theorem dL_law_319 : decode cL_law 319 = .ok (.aload_n 2, 1) := by decide +kernel
theorem dL_law_320 : decode cL_law 320 = .ok (.aload_n 0, 1) := by decide +kernel
theorem dL_law_321 : decode cL_law 321 = .ok (.iload_n 3, 1) := by decide +kernel
theorem dL_law_322 : decode cL_law 322 = .ok (.iconst 1, 1) := by decide +kernel
theorem dL_law_323 : decode cL_law 323 = .ok (.iadd, 1) := by decide +kernel
theorem dL_law_324 : decode cL_law 324 = .ok (.iaload, 1) := by decide +kernel
theorem dL_law_325 : decode cL_law 325 = .ok (.aload_n 0, 1) := by decide +kernel
theorem dL_law_326 : decode cL_law 326 = .ok (.iload_n 3, 1) := by decide +kernel
theorem dL_law_327 : decode cL_law 327 = .ok (.iconst 2, 1) := by decide +kernel
theorem dL_law_328 : decode cL_law 328 = .ok (.iadd, 1) := by decide +kernel
theorem dL_law_329 : decode cL_law 329 = .ok (.iaload, 1) := by decide +kernel
theorem dL_law_330 : decode cL_law 330 = .ok (.invokevirtual 42, 3) := by decide +kernel
theorem dL_law_333 : decode cL_law 333 = .ok (.if_icmp .eq 677, 3) := by decide +kernel
theorem dL_law_336 : decode cL_law 336 = .ok (.iconst 0, 1) := by decide +kernel
theorem dL_law_337 : decode cL_law 337 = .ok (.ireturn, 1) := by decide +kernel
theorem dL_law_338 : decode cL_law 338 = .ok (.aload_n 1, 1) := by decide +kernel
theorem dL_law_339 : decode cL_law 339 = .ok (.aload_n 0, 1) := by decide +kernel
theorem dL_law_340 : decode cL_law 340 = .ok (.iload_n 3, 1) := by decide +kernel
theorem dL_law_341 : decode cL_law 341 = .ok (.iconst 1, 1) := by decide +kernel
theorem dL_law_342 : decode cL_law 342 = .ok (.iadd, 1) := by decide +kernel
theorem dL_law_343 : decode cL_law 343 = .ok (.iaload, 1) := by decide +kernel
theorem dL_law_344 : decode cL_law 344 = .ok (.aload_n 0, 1) := by decide +kernel
theorem dL_law_345 : decode cL_law 345 = .ok (.iload_n 3, 1) := by decide +kernel
theorem dL_law_346 : decode cL_law 346 = .ok (.iconst 2, 1) := by decide +kernel
theorem dL_law_347 : decode cL_law 347 = .ok (.iadd, 1) := by decide +kernel
theorem dL_law_348 : decode cL_law 348 = .ok (.iaload, 1) := by decide +kernel
theorem dL_law_349 : decode cL_law 349 = .ok (.invokevirtual 43, 3) := by decide +kernel
theorem dL_law_352 : decode cL_law 352 = .ok (.aload_n 2, 1) := by decide +kernel
theorem dL_law_353 : decode cL_law 353 = .ok (.aload_n 0, 1) := by decide +kernel
theorem dL_law_354 : decode cL_law 354 = .ok (.iload_n 3, 1) := by decide +kernel
theorem dL_law_355 : decode cL_law 355 = .ok (.iconst 1, 1) := by decide +kernel
theorem dL_law_356 : decode cL_law 356 = .ok (.iadd, 1) := by decide +kernel
theorem dL_law_357 : decode cL_law 357 = .ok (.iaload, 1) := by decide +kernel
theorem dL_law_358 : decode cL_law 358 = .ok (.aload_n 0, 1) := by decide +kernel
theorem dL_law_359 : decode cL_law 359 = .ok (.iload_n 3, 1) := by decide +kernel
theorem dL_law_360 : decode cL_law 360 = .ok (.iconst 2, 1) := by decide +kernel
theorem dL_law_361 : decode cL_law 361 = .ok (.iadd, 1) := by decide +kernel
theorem dL_law_362 : decode cL_law 362 = .ok (.iaload, 1) := by decide +kernel
theorem dL_law_363 : decode cL_law 363 = .ok (.invokevirtual 46, 3) := by decide +kernel
theorem dL_law_366 : decode cL_law 366 = .ok (.if_icmp .eq 644, 3) := by decide +kernel
theorem dL_law_369 : decode cL_law 369 = .ok (.iconst 0, 1) := by decide +kernel
theorem dL_law_370 : decode cL_law 370 = .ok (.ireturn, 1) := by decide +kernel
theorem dL_law_371 : decode cL_law 371 = .ok (.aload_n 1, 1) := by decide +kernel
theorem dL_law_372 : decode cL_law 372 = .ok (.aload_n 0, 1) := by decide +kernel
theorem dL_law_373 : decode cL_law 373 = .ok (.iload_n 3, 1) := by decide +kernel
theorem dL_law_374 : decode cL_law 374 = .ok (.iconst 1, 1) := by decide +kernel
theorem dL_law_375 : decode cL_law 375 = .ok (.iadd, 1) := by decide +kernel
theorem dL_law_376 : decode cL_law 376 = .ok (.iaload, 1) := by decide +kernel
theorem dL_law_377 : decode cL_law 377 = .ok (.aload_n 0, 1) := by decide +kernel
theorem dL_law_378 : decode cL_law 378 = .ok (.iload_n 3, 1) := by decide +kernel
theorem dL_law_379 : decode cL_law 379 = .ok (.iconst 2, 1) := by decide +kernel
theorem dL_law_380 : decode cL_law 380 = .ok (.iadd, 1) := by decide +kernel
theorem dL_law_381 : decode cL_law 381 = .ok (.iaload, 1) := by decide +kernel
theorem dL_law_382 : decode cL_law 382 = .ok (.invokevirtual 47, 3) := by decide +kernel
theorem dL_law_385 : decode cL_law 385 = .ok (.aload_n 2, 1) := by decide +kernel
theorem dL_law_386 : decode cL_law 386 = .ok (.aload_n 0, 1) := by decide +kernel
theorem dL_law_387 : decode cL_law 387 = .ok (.iload_n 3, 1) := by decide +kernel
theorem dL_law_388 : decode cL_law 388 = .ok (.iconst 1, 1) := by decide +kernel
theorem dL_law_389 : decode cL_law 389 = .ok (.iadd, 1) := by decide +kernel
theorem dL_law_390 : decode cL_law 390 = .ok (.iaload, 1) := by decide +kernel
theorem dL_law_391 : decode cL_law 391 = .ok (.aload_n 0, 1) := by decide +kernel
theorem dL_law_392 : decode cL_law 392 = .ok (.iload_n 3, 1) := by decide +kernel
theorem dL_law_393 : decode cL_law 393 = .ok (.iconst 2, 1) := by decide +kernel
theorem dL_law_394 : decode cL_law 394 = .ok (.iadd, 1) := by decide +kernel
theorem dL_law_395 : decode cL_law 395 = .ok (.iaload, 1) := by decide +kernel
theorem dL_law_396 : decode cL_law 396 = .ok (.invokevirtual 50, 3) := by decide +kernel
theorem dL_law_399 : decode cL_law 399 = .ok (.if_icmp .eq 611, 3) := by decide +kernel
theorem dL_law_402 : decode cL_law 402 = .ok (.iconst 0, 1) := by decide +kernel
theorem dL_law_403 : decode cL_law 403 = .ok (.ireturn, 1) := by decide +kernel
theorem dL_law_404 : decode cL_law 404 = .ok (.aload_n 1, 1) := by decide +kernel
theorem dL_law_405 : decode cL_law 405 = .ok (.aload_n 0, 1) := by decide +kernel
theorem dL_law_406 : decode cL_law 406 = .ok (.iload_n 3, 1) := by decide +kernel
theorem dL_law_407 : decode cL_law 407 = .ok (.iconst 1, 1) := by decide +kernel
theorem dL_law_408 : decode cL_law 408 = .ok (.iadd, 1) := by decide +kernel
theorem dL_law_409 : decode cL_law 409 = .ok (.iaload, 1) := by decide +kernel
theorem dL_law_410 : decode cL_law 410 = .ok (.aload_n 0, 1) := by decide +kernel
theorem dL_law_411 : decode cL_law 411 = .ok (.iload_n 3, 1) := by decide +kernel
theorem dL_law_412 : decode cL_law 412 = .ok (.iconst 2, 1) := by decide +kernel
theorem dL_law_413 : decode cL_law 413 = .ok (.iadd, 1) := by decide +kernel
theorem dL_law_414 : decode cL_law 414 = .ok (.iaload, 1) := by decide +kernel
theorem dL_law_415 : decode cL_law 415 = .ok (.invokevirtual 51, 3) := by decide +kernel
theorem dL_law_418 : decode cL_law 418 = .ok (.aload_n 2, 1) := by decide +kernel
theorem dL_law_419 : decode cL_law 419 = .ok (.aload_n 0, 1) := by decide +kernel
theorem dL_law_420 : decode cL_law 420 = .ok (.iload_n 3, 1) := by decide +kernel
theorem dL_law_421 : decode cL_law 421 = .ok (.iconst 1, 1) := by decide +kernel
theorem dL_law_422 : decode cL_law 422 = .ok (.iadd, 1) := by decide +kernel
theorem dL_law_423 : decode cL_law 423 = .ok (.iaload, 1) := by decide +kernel
theorem dL_law_424 : decode cL_law 424 = .ok (.aload_n 0, 1) := by decide +kernel
theorem dL_law_425 : decode cL_law 425 = .ok (.iload_n 3, 1) := by decide +kernel
theorem dL_law_426 : decode cL_law 426 = .ok (.iconst 2, 1) := by decide +kernel
theorem dL_law_427 : decode cL_law 427 = .ok (.iadd, 1) := by decide +kernel
theorem dL_law_428 : decode cL_law 428 = .ok (.iaload, 1) := by decide +kernel
theorem dL_law_429 : decode cL_law 429 = .ok (.invokevirtual 54, 3) := by decide +kernel
theorem dL_law_432 : decode cL_law 432 = .ok (.if_icmp .eq 578, 3) := by decide +kernel
theorem dL_law_435 : decode cL_law 435 = .ok (.iconst 0, 1) := by decide +kernel
theorem dL_law_436 : decode cL_law 436 = .ok (.ireturn, 1) := by decide +kernel
theorem dL_law_437 : decode cL_law 437 = .ok (.aload_n 1, 1) := by decide +kernel
theorem dL_law_438 : decode cL_law 438 = .ok (.aload_n 0, 1) := by decide +kernel
theorem dL_law_439 : decode cL_law 439 = .ok (.iload_n 3, 1) := by decide +kernel
theorem dL_law_440 : decode cL_law 440 = .ok (.iconst 1, 1) := by decide +kernel
theorem dL_law_441 : decode cL_law 441 = .ok (.iadd, 1) := by decide +kernel
theorem dL_law_442 : decode cL_law 442 = .ok (.iaload, 1) := by decide +kernel
theorem dL_law_443 : decode cL_law 443 = .ok (.aload_n 0, 1) := by decide +kernel
theorem dL_law_444 : decode cL_law 444 = .ok (.iload_n 3, 1) := by decide +kernel
theorem dL_law_445 : decode cL_law 445 = .ok (.iconst 2, 1) := by decide +kernel
theorem dL_law_446 : decode cL_law 446 = .ok (.iadd, 1) := by decide +kernel
theorem dL_law_447 : decode cL_law 447 = .ok (.iaload, 1) := by decide +kernel
theorem dL_law_448 : decode cL_law 448 = .ok (.invokevirtual 55, 3) := by decide +kernel
theorem dL_law_451 : decode cL_law 451 = .ok (.aload_n 2, 1) := by decide +kernel
theorem dL_law_452 : decode cL_law 452 = .ok (.aload_n 0, 1) := by decide +kernel
theorem dL_law_453 : decode cL_law 453 = .ok (.iload_n 3, 1) := by decide +kernel
theorem dL_law_454 : decode cL_law 454 = .ok (.iconst 1, 1) := by decide +kernel
theorem dL_law_455 : decode cL_law 455 = .ok (.iadd, 1) := by decide +kernel
theorem dL_law_456 : decode cL_law 456 = .ok (.iaload, 1) := by decide +kernel
theorem dL_law_457 : decode cL_law 457 = .ok (.aload_n 0, 1) := by decide +kernel
theorem dL_law_458 : decode cL_law 458 = .ok (.iload_n 3, 1) := by decide +kernel
theorem dL_law_459 : decode cL_law 459 = .ok (.iconst 2, 1) := by decide +kernel
theorem dL_law_460 : decode cL_law 460 = .ok (.iadd, 1) := by decide +kernel
theorem dL_law_461 : decode cL_law 461 = .ok (.iaload, 1) := by decide +kernel
theorem dL_law_462 : decode cL_law 462 = .ok (.invokevirtual 58, 3) := by decide +kernel
theorem dL_law_465 : decode cL_law 465 = .ok (.if_icmp .eq 545, 3) := by decide +kernel
theorem dL_law_468 : decode cL_law 468 = .ok (.iconst 0, 1) := by decide +kernel
theorem dL_law_469 : decode cL_law 469 = .ok (.ireturn, 1) := by decide +kernel
theorem dL_law_470 : decode cL_law 470 = .ok (.aload_n 1, 1) := by decide +kernel
theorem dL_law_471 : decode cL_law 471 = .ok (.aload_n 0, 1) := by decide +kernel
theorem dL_law_472 : decode cL_law 472 = .ok (.iload_n 3, 1) := by decide +kernel
theorem dL_law_473 : decode cL_law 473 = .ok (.iconst 1, 1) := by decide +kernel
theorem dL_law_474 : decode cL_law 474 = .ok (.iadd, 1) := by decide +kernel
theorem dL_law_475 : decode cL_law 475 = .ok (.iaload, 1) := by decide +kernel
theorem dL_law_476 : decode cL_law 476 = .ok (.invokevirtual 59, 3) := by decide +kernel
theorem dL_law_479 : decode cL_law 479 = .ok (.aload_n 2, 1) := by decide +kernel
theorem dL_law_480 : decode cL_law 480 = .ok (.aload_n 0, 1) := by decide +kernel
theorem dL_law_481 : decode cL_law 481 = .ok (.iload_n 3, 1) := by decide +kernel
theorem dL_law_482 : decode cL_law 482 = .ok (.iconst 1, 1) := by decide +kernel
theorem dL_law_483 : decode cL_law 483 = .ok (.iadd, 1) := by decide +kernel
theorem dL_law_484 : decode cL_law 484 = .ok (.iaload, 1) := by decide +kernel
theorem dL_law_485 : decode cL_law 485 = .ok (.invokevirtual 62, 3) := by decide +kernel
theorem dL_law_488 : decode cL_law 488 = .ok (.if_icmp .eq 522, 3) := by decide +kernel
theorem dL_law_491 : decode cL_law 491 = .ok (.iconst 0, 1) := by decide +kernel
theorem dL_law_492 : decode cL_law 492 = .ok (.ireturn, 1) := by decide +kernel
theorem dL_law_493 : decode cL_law 493 = .ok (.aload_n 1, 1) := by decide +kernel
theorem dL_law_494 : decode cL_law 494 = .ok (.aload_n 0, 1) := by decide +kernel
theorem dL_law_495 : decode cL_law 495 = .ok (.iload_n 3, 1) := by decide +kernel
theorem dL_law_496 : decode cL_law 496 = .ok (.iconst 1, 1) := by decide +kernel
theorem dL_law_497 : decode cL_law 497 = .ok (.iadd, 1) := by decide +kernel
theorem dL_law_498 : decode cL_law 498 = .ok (.iaload, 1) := by decide +kernel
theorem dL_law_499 : decode cL_law 499 = .ok (.invokevirtual 63, 3) := by decide +kernel
theorem dL_law_502 : decode cL_law 502 = .ok (.aload_n 2, 1) := by decide +kernel
theorem dL_law_503 : decode cL_law 503 = .ok (.aload_n 0, 1) := by decide +kernel
theorem dL_law_504 : decode cL_law 504 = .ok (.iload_n 3, 1) := by decide +kernel
theorem dL_law_505 : decode cL_law 505 = .ok (.iconst 1, 1) := by decide +kernel
theorem dL_law_506 : decode cL_law 506 = .ok (.iadd, 1) := by decide +kernel
theorem dL_law_507 : decode cL_law 507 = .ok (.iaload, 1) := by decide +kernel
theorem dL_law_508 : decode cL_law 508 = .ok (.invokevirtual 66, 3) := by decide +kernel
theorem dL_law_511 : decode cL_law 511 = .ok (.if_icmp .eq 499, 3) := by decide +kernel
theorem dL_law_514 : decode cL_law 514 = .ok (.iconst 0, 1) := by decide +kernel
theorem dL_law_515 : decode cL_law 515 = .ok (.ireturn, 1) := by decide +kernel
theorem dL_law_516 : decode cL_law 516 = .ok (.aload_n 1, 1) := by decide +kernel
theorem dL_law_517 : decode cL_law 517 = .ok (.aload_n 0, 1) := by decide +kernel
theorem dL_law_518 : decode cL_law 518 = .ok (.iload_n 3, 1) := by decide +kernel
theorem dL_law_519 : decode cL_law 519 = .ok (.iconst 1, 1) := by decide +kernel
theorem dL_law_520 : decode cL_law 520 = .ok (.iadd, 1) := by decide +kernel
theorem dL_law_521 : decode cL_law 521 = .ok (.iaload, 1) := by decide +kernel
theorem dL_law_522 : decode cL_law 522 = .ok (.invokevirtual 67, 3) := by decide +kernel
theorem dL_law_525 : decode cL_law 525 = .ok (.aload_n 2, 1) := by decide +kernel
theorem dL_law_526 : decode cL_law 526 = .ok (.aload_n 0, 1) := by decide +kernel
theorem dL_law_527 : decode cL_law 527 = .ok (.iload_n 3, 1) := by decide +kernel
theorem dL_law_528 : decode cL_law 528 = .ok (.iconst 1, 1) := by decide +kernel
theorem dL_law_529 : decode cL_law 529 = .ok (.iadd, 1) := by decide +kernel
theorem dL_law_530 : decode cL_law 530 = .ok (.iaload, 1) := by decide +kernel
theorem dL_law_531 : decode cL_law 531 = .ok (.invokevirtual 70, 3) := by decide +kernel
theorem dL_law_534 : decode cL_law 534 = .ok (.if_icmp .eq 476, 3) := by decide +kernel
theorem dL_law_537 : decode cL_law 537 = .ok (.iconst 0, 1) := by decide +kernel
theorem dL_law_538 : decode cL_law 538 = .ok (.ireturn, 1) := by decide +kernel
theorem dL_law_539 : decode cL_law 539 = .ok (.aload_n 1, 1) := by decide +kernel
theorem dL_law_540 : decode cL_law 540 = .ok (.aload_n 0, 1) := by decide +kernel
theorem dL_law_541 : decode cL_law 541 = .ok (.iload_n 3, 1) := by decide +kernel
theorem dL_law_542 : decode cL_law 542 = .ok (.iconst 1, 1) := by decide +kernel
theorem dL_law_543 : decode cL_law 543 = .ok (.iadd, 1) := by decide +kernel
theorem dL_law_544 : decode cL_law 544 = .ok (.iaload, 1) := by decide +kernel
theorem dL_law_545 : decode cL_law 545 = .ok (.invokevirtual 71, 3) := by decide +kernel
theorem dL_law_548 : decode cL_law 548 = .ok (.aload_n 2, 1) := by decide +kernel
theorem dL_law_549 : decode cL_law 549 = .ok (.aload_n 0, 1) := by decide +kernel
theorem dL_law_550 : decode cL_law 550 = .ok (.iload_n 3, 1) := by decide +kernel
theorem dL_law_551 : decode cL_law 551 = .ok (.iconst 1, 1) := by decide +kernel
theorem dL_law_552 : decode cL_law 552 = .ok (.iadd, 1) := by decide +kernel
theorem dL_law_553 : decode cL_law 553 = .ok (.iaload, 1) := by decide +kernel
theorem dL_law_554 : decode cL_law 554 = .ok (.invokevirtual 74, 3) := by decide +kernel
theorem dL_law_557 : decode cL_law 557 = .ok (.if_icmp .eq 453, 3) := by decide +kernel
theorem dL_law_560 : decode cL_law 560 = .ok (.iconst 0, 1) := by decide +kernel
theorem dL_law_561 : decode cL_law 561 = .ok (.ireturn, 1) := by decide +kernel
theorem dL_law_562 : decode cL_law 562 = .ok (.aload_n 1, 1) := by decide +kernel
theorem dL_law_563 : decode cL_law 563 = .ok (.invokevirtual 75, 3) := by decide +kernel
theorem dL_law_566 : decode cL_law 566 = .ok (.aload_n 2, 1) := by decide +kernel
theorem dL_law_567 : decode cL_law 567 = .ok (.invokevirtual 78, 3) := by decide +kernel
theorem dL_law_570 : decode cL_law 570 = .ok (.if_icmp .eq 440, 3) := by decide +kernel
theorem dL_law_573 : decode cL_law 573 = .ok (.iconst 0, 1) := by decide +kernel
theorem dL_law_574 : decode cL_law 574 = .ok (.ireturn, 1) := by decide +kernel
theorem dL_law_575 : decode cL_law 575 = .ok (.aload_n 1, 1) := by decide +kernel
theorem dL_law_576 : decode cL_law 576 = .ok (.aload_n 0, 1) := by decide +kernel
theorem dL_law_577 : decode cL_law 577 = .ok (.iload_n 3, 1) := by decide +kernel
theorem dL_law_578 : decode cL_law 578 = .ok (.iconst 1, 1) := by decide +kernel
theorem dL_law_579 : decode cL_law 579 = .ok (.iadd, 1) := by decide +kernel
theorem dL_law_580 : decode cL_law 580 = .ok (.iaload, 1) := by decide +kernel
theorem dL_law_581 : decode cL_law 581 = .ok (.aload_n 0, 1) := by decide +kernel
theorem dL_law_582 : decode cL_law 582 = .ok (.iload_n 3, 1) := by decide +kernel
theorem dL_law_583 : decode cL_law 583 = .ok (.iconst 2, 1) := by decide +kernel
theorem dL_law_584 : decode cL_law 584 = .ok (.iadd, 1) := by decide +kernel
theorem dL_law_585 : decode cL_law 585 = .ok (.iaload, 1) := by decide +kernel
theorem dL_law_586 : decode cL_law 586 = .ok (.invokevirtual 79, 3) := by decide +kernel
theorem dL_law_589 : decode cL_law 589 = .ok (.aload_n 2, 1) := by decide +kernel
theorem dL_law_590 : decode cL_law 590 = .ok (.aload_n 0, 1) := by decide +kernel
theorem dL_law_591 : decode cL_law 591 = .ok (.iload_n 3, 1) := by decide +kernel
theorem dL_law_592 : decode cL_law 592 = .ok (.iconst 1, 1) := by decide +kernel
theorem dL_law_593 : decode cL_law 593 = .ok (.iadd, 1) := by decide +kernel
theorem dL_law_594 : decode cL_law 594 = .ok (.iaload, 1) := by decide +kernel
theorem dL_law_595 : decode cL_law 595 = .ok (.aload_n 0, 1) := by decide +kernel
theorem dL_law_596 : decode cL_law 596 = .ok (.iload_n 3, 1) := by decide +kernel
theorem dL_law_597 : decode cL_law 597 = .ok (.iconst 2, 1) := by decide +kernel
theorem dL_law_598 : decode cL_law 598 = .ok (.iadd, 1) := by decide +kernel
theorem dL_law_599 : decode cL_law 599 = .ok (.iaload, 1) := by decide +kernel
theorem dL_law_600 : decode cL_law 600 = .ok (.invokevirtual 82, 3) := by decide +kernel
theorem dL_law_603 : decode cL_law 603 = .ok (.if_icmp .eq 407, 3) := by decide +kernel
theorem dL_law_606 : decode cL_law 606 = .ok (.iconst 0, 1) := by decide +kernel
theorem dL_law_607 : decode cL_law 607 = .ok (.ireturn, 1) := by decide +kernel
theorem dL_law_608 : decode cL_law 608 = .ok (.aload_n 1, 1) := by decide +kernel
theorem dL_law_609 : decode cL_law 609 = .ok (.aload_n 0, 1) := by decide +kernel
theorem dL_law_610 : decode cL_law 610 = .ok (.iload_n 3, 1) := by decide +kernel
theorem dL_law_611 : decode cL_law 611 = .ok (.iconst 1, 1) := by decide +kernel
theorem dL_law_612 : decode cL_law 612 = .ok (.iadd, 1) := by decide +kernel
theorem dL_law_613 : decode cL_law 613 = .ok (.iaload, 1) := by decide +kernel
theorem dL_law_614 : decode cL_law 614 = .ok (.aload_n 0, 1) := by decide +kernel
theorem dL_law_615 : decode cL_law 615 = .ok (.iload_n 3, 1) := by decide +kernel
theorem dL_law_616 : decode cL_law 616 = .ok (.iconst 2, 1) := by decide +kernel
theorem dL_law_617 : decode cL_law 617 = .ok (.iadd, 1) := by decide +kernel
theorem dL_law_618 : decode cL_law 618 = .ok (.iaload, 1) := by decide +kernel
theorem dL_law_619 : decode cL_law 619 = .ok (.aload_n 0, 1) := by decide +kernel
theorem dL_law_620 : decode cL_law 620 = .ok (.iload_n 3, 1) := by decide +kernel
theorem dL_law_621 : decode cL_law 621 = .ok (.iconst 3, 1) := by decide +kernel
theorem dL_law_622 : decode cL_law 622 = .ok (.iadd, 1) := by decide +kernel
theorem dL_law_623 : decode cL_law 623 = .ok (.iaload, 1) := by decide +kernel
theorem dL_law_624 : decode cL_law 624 = .ok (.invokevirtual 83, 3) := by decide +kernel
theorem dL_law_627 : decode cL_law 627 = .ok (.aload_n 2, 1) := by decide +kernel
theorem dL_law_628 : decode cL_law 628 = .ok (.aload_n 0, 1) := by decide +kernel
theorem dL_law_629 : decode cL_law 629 = .ok (.iload_n 3, 1) := by decide +kernel
theorem dL_law_630 : decode cL_law 630 = .ok (.iconst 1, 1) := by decide +kernel
theorem dL_law_631 : decode cL_law 631 = .ok (.iadd, 1) := by decide +kernel
theorem dL_law_632 : decode cL_law 632 = .ok (.iaload, 1) := by decide +kernel
theorem dL_law_633 : decode cL_law 633 = .ok (.aload_n 0, 1) := by decide +kernel
theorem dL_law_634 : decode cL_law 634 = .ok (.iload_n 3, 1) := by decide +kernel
theorem dL_law_635 : decode cL_law 635 = .ok (.iconst 2, 1) := by decide +kernel
theorem dL_law_636 : decode cL_law 636 = .ok (.iadd, 1) := by decide +kernel
theorem dL_law_637 : decode cL_law 637 = .ok (.iaload, 1) := by decide +kernel
theorem dL_law_638 : decode cL_law 638 = .ok (.aload_n 0, 1) := by decide +kernel
theorem dL_law_639 : decode cL_law 639 = .ok (.iload_n 3, 1) := by decide +kernel
theorem dL_law_640 : decode cL_law 640 = .ok (.iconst 3, 1) := by decide +kernel
theorem dL_law_641 : decode cL_law 641 = .ok (.iadd, 1) := by decide +kernel
theorem dL_law_642 : decode cL_law 642 = .ok (.iaload, 1) := by decide +kernel
theorem dL_law_643 : decode cL_law 643 = .ok (.invokevirtual 87, 3) := by decide +kernel
theorem dL_law_646 : decode cL_law 646 = .ok (.if_icmp .eq 364, 3) := by decide +kernel
theorem dL_law_649 : decode cL_law 649 = .ok (.iconst 0, 1) := by decide +kernel
theorem dL_law_650 : decode cL_law 650 = .ok (.ireturn, 1) := by decide +kernel
theorem dL_law_651 : decode cL_law 651 = .ok (.aload_n 1, 1) := by decide +kernel
theorem dL_law_652 : decode cL_law 652 = .ok (.aload_n 0, 1) := by decide +kernel
theorem dL_law_653 : decode cL_law 653 = .ok (.iload_n 3, 1) := by decide +kernel
theorem dL_law_654 : decode cL_law 654 = .ok (.iconst 1, 1) := by decide +kernel
theorem dL_law_655 : decode cL_law 655 = .ok (.iadd, 1) := by decide +kernel
theorem dL_law_656 : decode cL_law 656 = .ok (.iaload, 1) := by decide +kernel
theorem dL_law_657 : decode cL_law 657 = .ok (.aload_n 0, 1) := by decide +kernel
theorem dL_law_658 : decode cL_law 658 = .ok (.iload_n 3, 1) := by decide +kernel
theorem dL_law_659 : decode cL_law 659 = .ok (.iconst 2, 1) := by decide +kernel
theorem dL_law_660 : decode cL_law 660 = .ok (.iadd, 1) := by decide +kernel
theorem dL_law_661 : decode cL_law 661 = .ok (.iaload, 1) := by decide +kernel
theorem dL_law_662 : decode cL_law 662 = .ok (.invokevirtual 88, 3) := by decide +kernel
theorem dL_law_665 : decode cL_law 665 = .ok (.aload_n 2, 1) := by decide +kernel
theorem dL_law_666 : decode cL_law 666 = .ok (.aload_n 0, 1) := by decide +kernel
theorem dL_law_667 : decode cL_law 667 = .ok (.iload_n 3, 1) := by decide +kernel
theorem dL_law_668 : decode cL_law 668 = .ok (.iconst 1, 1) := by decide +kernel
theorem dL_law_669 : decode cL_law 669 = .ok (.iadd, 1) := by decide +kernel
theorem dL_law_670 : decode cL_law 670 = .ok (.iaload, 1) := by decide +kernel
theorem dL_law_671 : decode cL_law 671 = .ok (.aload_n 0, 1) := by decide +kernel
theorem dL_law_672 : decode cL_law 672 = .ok (.iload_n 3, 1) := by decide +kernel
theorem dL_law_673 : decode cL_law 673 = .ok (.iconst 2, 1) := by decide +kernel
theorem dL_law_674 : decode cL_law 674 = .ok (.iadd, 1) := by decide +kernel
theorem dL_law_675 : decode cL_law 675 = .ok (.iaload, 1) := by decide +kernel
theorem dL_law_676 : decode cL_law 676 = .ok (.invokevirtual 91, 3) := by decide +kernel
theorem dL_law_679 : decode cL_law 679 = .ok (.if_icmp .eq 331, 3) := by decide +kernel
theorem dL_law_682 : decode cL_law 682 = .ok (.iconst 0, 1) := by decide +kernel
theorem dL_law_683 : decode cL_law 683 = .ok (.ireturn, 1) := by decide +kernel
theorem dL_law_684 : decode cL_law 684 = .ok (.aload_n 1, 1) := by decide +kernel
theorem dL_law_685 : decode cL_law 685 = .ok (.aload_n 0, 1) := by decide +kernel
theorem dL_law_686 : decode cL_law 686 = .ok (.iload_n 3, 1) := by decide +kernel
theorem dL_law_687 : decode cL_law 687 = .ok (.iconst 1, 1) := by decide +kernel
theorem dL_law_688 : decode cL_law 688 = .ok (.iadd, 1) := by decide +kernel
theorem dL_law_689 : decode cL_law 689 = .ok (.iaload, 1) := by decide +kernel
theorem dL_law_690 : decode cL_law 690 = .ok (.aload_n 0, 1) := by decide +kernel
theorem dL_law_691 : decode cL_law 691 = .ok (.iload_n 3, 1) := by decide +kernel
theorem dL_law_692 : decode cL_law 692 = .ok (.iconst 2, 1) := by decide +kernel
theorem dL_law_693 : decode cL_law 693 = .ok (.iadd, 1) := by decide +kernel
theorem dL_law_694 : decode cL_law 694 = .ok (.iaload, 1) := by decide +kernel
theorem dL_law_695 : decode cL_law 695 = .ok (.invokevirtual 92, 3) := by decide +kernel
theorem dL_law_698 : decode cL_law 698 = .ok (.aload_n 2, 1) := by decide +kernel
theorem dL_law_699 : decode cL_law 699 = .ok (.aload_n 0, 1) := by decide +kernel
theorem dL_law_700 : decode cL_law 700 = .ok (.iload_n 3, 1) := by decide +kernel
theorem dL_law_701 : decode cL_law 701 = .ok (.iconst 1, 1) := by decide +kernel
theorem dL_law_702 : decode cL_law 702 = .ok (.iadd, 1) := by decide +kernel
theorem dL_law_703 : decode cL_law 703 = .ok (.iaload, 1) := by decide +kernel
theorem dL_law_704 : decode cL_law 704 = .ok (.aload_n 0, 1) := by decide +kernel
theorem dL_law_705 : decode cL_law 705 = .ok (.iload_n 3, 1) := by decide +kernel
theorem dL_law_706 : decode cL_law 706 = .ok (.iconst 2, 1) := by decide +kernel
theorem dL_law_707 : decode cL_law 707 = .ok (.iadd, 1) := by decide +kernel
theorem dL_law_708 : decode cL_law 708 = .ok (.iaload, 1) := by decide +kernel
theorem dL_law_709 : decode cL_law 709 = .ok (.invokevirtual 95, 3) := by decide +kernel
theorem dL_law_712 : decode cL_law 712 = .ok (.if_icmp .eq 298, 3) := by decide +kernel
theorem dL_law_715 : decode cL_law 715 = .ok (.iconst 0, 1) := by decide +kernel
theorem dL_law_716 : decode cL_law 716 = .ok (.ireturn, 1) := by decide +kernel
theorem dL_law_717 : decode cL_law 717 = .ok (.aload_n 1, 1) := by decide +kernel
theorem dL_law_718 : decode cL_law 718 = .ok (.aload_n 0, 1) := by decide +kernel
theorem dL_law_719 : decode cL_law 719 = .ok (.iload_n 3, 1) := by decide +kernel
theorem dL_law_720 : decode cL_law 720 = .ok (.iconst 1, 1) := by decide +kernel
theorem dL_law_721 : decode cL_law 721 = .ok (.iadd, 1) := by decide +kernel
theorem dL_law_722 : decode cL_law 722 = .ok (.iaload, 1) := by decide +kernel
theorem dL_law_723 : decode cL_law 723 = .ok (.aload_n 0, 1) := by decide +kernel
theorem dL_law_724 : decode cL_law 724 = .ok (.iload_n 3, 1) := by decide +kernel
theorem dL_law_725 : decode cL_law 725 = .ok (.iconst 2, 1) := by decide +kernel
theorem dL_law_726 : decode cL_law 726 = .ok (.iadd, 1) := by decide +kernel
theorem dL_law_727 : decode cL_law 727 = .ok (.iaload, 1) := by decide +kernel
theorem dL_law_728 : decode cL_law 728 = .ok (.invokevirtual 96, 3) := by decide +kernel
theorem dL_law_731 : decode cL_law 731 = .ok (.aload_n 2, 1) := by decide +kernel
theorem dL_law_732 : decode cL_law 732 = .ok (.aload_n 0, 1) := by decide +kernel
theorem dL_law_733 : decode cL_law 733 = .ok (.iload_n 3, 1) := by decide +kernel
theorem dL_law_734 : decode cL_law 734 = .ok (.iconst 1, 1) := by decide +kernel
theorem dL_law_735 : decode cL_law 735 = .ok (.iadd, 1) := by decide +kernel
theorem dL_law_736 : decode cL_law 736 = .ok (.iaload, 1) := by decide +kernel
theorem dL_law_737 : decode cL_law 737 = .ok (.aload_n 0, 1) := by decide +kernel
theorem dL_law_738 : decode cL_law 738 = .ok (.iload_n 3, 1) := by decide +kernel
theorem dL_law_739 : decode cL_law 739 = .ok (.iconst 2, 1) := by decide +kernel
theorem dL_law_740 : decode cL_law 740 = .ok (.iadd, 1) := by decide +kernel
theorem dL_law_741 : decode cL_law 741 = .ok (.iaload, 1) := by decide +kernel
theorem dL_law_742 : decode cL_law 742 = .ok (.invokevirtual 99, 3) := by decide +kernel
theorem dL_law_745 : decode cL_law 745 = .ok (.if_icmp .eq 265, 3) := by decide +kernel
theorem dL_law_748 : decode cL_law 748 = .ok (.iconst 0, 1) := by decide +kernel
theorem dL_law_749 : decode cL_law 749 = .ok (.ireturn, 1) := by decide +kernel
theorem dL_law_750 : decode cL_law 750 = .ok (.aload_n 1, 1) := by decide +kernel
theorem dL_law_751 : decode cL_law 751 = .ok (.aload_n 0, 1) := by decide +kernel
theorem dL_law_752 : decode cL_law 752 = .ok (.iload_n 3, 1) := by decide +kernel
theorem dL_law_753 : decode cL_law 753 = .ok (.iconst 1, 1) := by decide +kernel
theorem dL_law_754 : decode cL_law 754 = .ok (.iadd, 1) := by decide +kernel
theorem dL_law_755 : decode cL_law 755 = .ok (.iaload, 1) := by decide +kernel
theorem dL_law_756 : decode cL_law 756 = .ok (.aload_n 0, 1) := by decide +kernel
theorem dL_law_757 : decode cL_law 757 = .ok (.iload_n 3, 1) := by decide +kernel
theorem dL_law_758 : decode cL_law 758 = .ok (.iconst 2, 1) := by decide +kernel
theorem dL_law_759 : decode cL_law 759 = .ok (.iadd, 1) := by decide +kernel
theorem dL_law_760 : decode cL_law 760 = .ok (.iaload, 1) := by decide +kernel
theorem dL_law_761 : decode cL_law 761 = .ok (.aload_n 0, 1) := by decide +kernel
theorem dL_law_762 : decode cL_law 762 = .ok (.iload_n 3, 1) := by decide +kernel
theorem dL_law_763 : decode cL_law 763 = .ok (.iconst 3, 1) := by decide +kernel
theorem dL_law_764 : decode cL_law 764 = .ok (.iadd, 1) := by decide +kernel
theorem dL_law_765 : decode cL_law 765 = .ok (.iaload, 1) := by decide +kernel
theorem dL_law_766 : decode cL_law 766 = .ok (.invokevirtual 100, 3) := by decide +kernel
theorem dL_law_769 : decode cL_law 769 = .ok (.aload_n 2, 1) := by decide +kernel
theorem dL_law_770 : decode cL_law 770 = .ok (.aload_n 0, 1) := by decide +kernel
theorem dL_law_771 : decode cL_law 771 = .ok (.iload_n 3, 1) := by decide +kernel
theorem dL_law_772 : decode cL_law 772 = .ok (.iconst 1, 1) := by decide +kernel
theorem dL_law_773 : decode cL_law 773 = .ok (.iadd, 1) := by decide +kernel
theorem dL_law_774 : decode cL_law 774 = .ok (.iaload, 1) := by decide +kernel
theorem dL_law_775 : decode cL_law 775 = .ok (.aload_n 0, 1) := by decide +kernel
theorem dL_law_776 : decode cL_law 776 = .ok (.iload_n 3, 1) := by decide +kernel
theorem dL_law_777 : decode cL_law 777 = .ok (.iconst 2, 1) := by decide +kernel
theorem dL_law_778 : decode cL_law 778 = .ok (.iadd, 1) := by decide +kernel
theorem dL_law_779 : decode cL_law 779 = .ok (.iaload, 1) := by decide +kernel
theorem dL_law_780 : decode cL_law 780 = .ok (.aload_n 0, 1) := by decide +kernel
theorem dL_law_781 : decode cL_law 781 = .ok (.iload_n 3, 1) := by decide +kernel
theorem dL_law_782 : decode cL_law 782 = .ok (.iconst 3, 1) := by decide +kernel
theorem dL_law_783 : decode cL_law 783 = .ok (.iadd, 1) := by decide +kernel
theorem dL_law_784 : decode cL_law 784 = .ok (.iaload, 1) := by decide +kernel
theorem dL_law_785 : decode cL_law 785 = .ok (.invokevirtual 103, 3) := by decide +kernel
theorem dL_law_788 : decode cL_law 788 = .ok (.if_icmp .eq 222, 3) := by decide +kernel
theorem dL_law_791 : decode cL_law 791 = .ok (.iconst 0, 1) := by decide +kernel
theorem dL_law_792 : decode cL_law 792 = .ok (.ireturn, 1) := by decide +kernel
theorem dL_law_793 : decode cL_law 793 = .ok (.aload_n 1, 1) := by decide +kernel
theorem dL_law_794 : decode cL_law 794 = .ok (.aload_n 0, 1) := by decide +kernel
theorem dL_law_795 : decode cL_law 795 = .ok (.iload_n 3, 1) := by decide +kernel
theorem dL_law_796 : decode cL_law 796 = .ok (.iconst 1, 1) := by decide +kernel
theorem dL_law_797 : decode cL_law 797 = .ok (.iadd, 1) := by decide +kernel
theorem dL_law_798 : decode cL_law 798 = .ok (.iaload, 1) := by decide +kernel
theorem dL_law_799 : decode cL_law 799 = .ok (.aload_n 0, 1) := by decide +kernel
theorem dL_law_800 : decode cL_law 800 = .ok (.iload_n 3, 1) := by decide +kernel
theorem dL_law_801 : decode cL_law 801 = .ok (.iconst 2, 1) := by decide +kernel
theorem dL_law_802 : decode cL_law 802 = .ok (.iadd, 1) := by decide +kernel
theorem dL_law_803 : decode cL_law 803 = .ok (.iaload, 1) := by decide +kernel
theorem dL_law_804 : decode cL_law 804 = .ok (.aload_n 0, 1) := by decide +kernel
theorem dL_law_805 : decode cL_law 805 = .ok (.iload_n 3, 1) := by decide +kernel
theorem dL_law_806 : decode cL_law 806 = .ok (.iconst 3, 1) := by decide +kernel
theorem dL_law_807 : decode cL_law 807 = .ok (.iadd, 1) := by decide +kernel
theorem dL_law_808 : decode cL_law 808 = .ok (.iaload, 1) := by decide +kernel
theorem dL_law_809 : decode cL_law 809 = .ok (.aload_n 0, 1) := by decide +kernel
theorem dL_law_810 : decode cL_law 810 = .ok (.iload_n 3, 1) := by decide +kernel
theorem dL_law_811 : decode cL_law 811 = .ok (.iconst 4, 1) := by decide +kernel
theorem dL_law_812 : decode cL_law 812 = .ok (.iadd, 1) := by decide +kernel
theorem dL_law_813 : decode cL_law 813 = .ok (.iaload, 1) := by decide +kernel
theorem dL_law_814 : decode cL_law 814 = .ok (.aload_n 0, 1) := by decide +kernel
theorem dL_law_815 : decode cL_law 815 = .ok (.iload_n 3, 1) := by decide +kernel
theorem dL_law_816 : decode cL_law 816 = .ok (.iconst 5, 1) := by decide +kernel
theorem dL_law_817 : decode cL_law 817 = .ok (.iadd, 1) := by decide +kernel
theorem dL_law_818 : decode cL_law 818 = .ok (.iaload, 1) := by decide +kernel
theorem dL_law_819 : decode cL_law 819 = .ok (.invokevirtual 104, 3) := by decide +kernel
theorem dL_law_822 : decode cL_law 822 = .ok (.aload_n 2, 1) := by decide +kernel
theorem dL_law_823 : decode cL_law 823 = .ok (.aload_n 0, 1) := by decide +kernel
theorem dL_law_824 : decode cL_law 824 = .ok (.iload_n 3, 1) := by decide +kernel
theorem dL_law_825 : decode cL_law 825 = .ok (.iconst 1, 1) := by decide +kernel
theorem dL_law_826 : decode cL_law 826 = .ok (.iadd, 1) := by decide +kernel
theorem dL_law_827 : decode cL_law 827 = .ok (.iaload, 1) := by decide +kernel
theorem dL_law_828 : decode cL_law 828 = .ok (.aload_n 0, 1) := by decide +kernel
theorem dL_law_829 : decode cL_law 829 = .ok (.iload_n 3, 1) := by decide +kernel
theorem dL_law_830 : decode cL_law 830 = .ok (.iconst 2, 1) := by decide +kernel
theorem dL_law_831 : decode cL_law 831 = .ok (.iadd, 1) := by decide +kernel
theorem dL_law_832 : decode cL_law 832 = .ok (.iaload, 1) := by decide +kernel
theorem dL_law_833 : decode cL_law 833 = .ok (.aload_n 0, 1) := by decide +kernel
theorem dL_law_834 : decode cL_law 834 = .ok (.iload_n 3, 1) := by decide +kernel
theorem dL_law_835 : decode cL_law 835 = .ok (.iconst 3, 1) := by decide +kernel
theorem dL_law_836 : decode cL_law 836 = .ok (.iadd, 1) := by decide +kernel
theorem dL_law_837 : decode cL_law 837 = .ok (.iaload, 1) := by decide +kernel
theorem dL_law_838 : decode cL_law 838 = .ok (.aload_n 0, 1) := by decide +kernel
theorem dL_law_839 : decode cL_law 839 = .ok (.iload_n 3, 1) := by decide +kernel
theorem dL_law_840 : decode cL_law 840 = .ok (.iconst 4, 1) := by decide +kernel
theorem dL_law_841 : decode cL_law 841 = .ok (.iadd, 1) := by decide +kernel
theorem dL_law_842 : decode cL_law 842 = .ok (.iaload, 1) := by decide +kernel
theorem dL_law_843 : decode cL_law 843 = .ok (.aload_n 0, 1) := by decide +kernel
theorem dL_law_844 : decode cL_law 844 = .ok (.iload_n 3, 1) := by decide +kernel
theorem dL_law_845 : decode cL_law 845 = .ok (.iconst 5, 1) := by decide +kernel
theorem dL_law_846 : decode cL_law 846 = .ok (.iadd, 1) := by decide +kernel
theorem dL_law_847 : decode cL_law 847 = .ok (.iaload, 1) := by decide +kernel
theorem dL_law_848 : decode cL_law 848 = .ok (.invokevirtual 108, 3) := by decide +kernel
theorem dL_law_851 : decode cL_law 851 = .ok (.if_icmp .eq 159, 3) := by decide +kernel
theorem dL_law_854 : decode cL_law 854 = .ok (.iconst 0, 1) := by decide +kernel
theorem dL_law_855 : decode cL_law 855 = .ok (.ireturn, 1) := by decide +kernel
theorem dL_law_856 : decode cL_law 856 = .ok (.aload_n 1, 1) := by decide +kernel
theorem dL_law_857 : decode cL_law 857 = .ok (.aload_n 0, 1) := by decide +kernel
theorem dL_law_858 : decode cL_law 858 = .ok (.iload_n 3, 1) := by decide +kernel
theorem dL_law_859 : decode cL_law 859 = .ok (.iconst 1, 1) := by decide +kernel
theorem dL_law_860 : decode cL_law 860 = .ok (.iadd, 1) := by decide +kernel
theorem dL_law_861 : decode cL_law 861 = .ok (.iaload, 1) := by decide +kernel
theorem dL_law_862 : decode cL_law 862 = .ok (.aload_n 0, 1) := by decide +kernel
theorem dL_law_863 : decode cL_law 863 = .ok (.iload_n 3, 1) := by decide +kernel
theorem dL_law_864 : decode cL_law 864 = .ok (.iconst 2, 1) := by decide +kernel
theorem dL_law_865 : decode cL_law 865 = .ok (.iadd, 1) := by decide +kernel
theorem dL_law_866 : decode cL_law 866 = .ok (.iaload, 1) := by decide +kernel
theorem dL_law_867 : decode cL_law 867 = .ok (.aload_n 0, 1) := by decide +kernel
theorem dL_law_868 : decode cL_law 868 = .ok (.iload_n 3, 1) := by decide +kernel
theorem dL_law_869 : decode cL_law 869 = .ok (.iconst 3, 1) := by decide +kernel
theorem dL_law_870 : decode cL_law 870 = .ok (.iadd, 1) := by decide +kernel
theorem dL_law_871 : decode cL_law 871 = .ok (.iaload, 1) := by decide +kernel
theorem dL_law_872 : decode cL_law 872 = .ok (.ifCond .eq 7, 3) := by decide +kernel
theorem dL_law_875 : decode cL_law 875 = .ok (.iconst 1, 1) := by decide +kernel
theorem dL_law_876 : decode cL_law 876 = .ok (.goto 4, 3) := by decide +kernel
theorem dL_law_879 : decode cL_law 879 = .ok (.iconst 0, 1) := by decide +kernel
theorem dL_law_880 : decode cL_law 880 = .ok (.invokevirtual 109, 3) := by decide +kernel
theorem dL_law_883 : decode cL_law 883 = .ok (.aload_n 2, 1) := by decide +kernel
theorem dL_law_884 : decode cL_law 884 = .ok (.aload_n 0, 1) := by decide +kernel
theorem dL_law_885 : decode cL_law 885 = .ok (.iload_n 3, 1) := by decide +kernel
theorem dL_law_886 : decode cL_law 886 = .ok (.iconst 1, 1) := by decide +kernel
theorem dL_law_887 : decode cL_law 887 = .ok (.iadd, 1) := by decide +kernel
theorem dL_law_888 : decode cL_law 888 = .ok (.iaload, 1) := by decide +kernel
theorem dL_law_889 : decode cL_law 889 = .ok (.aload_n 0, 1) := by decide +kernel
theorem dL_law_890 : decode cL_law 890 = .ok (.iload_n 3, 1) := by decide +kernel
theorem dL_law_891 : decode cL_law 891 = .ok (.iconst 2, 1) := by decide +kernel
theorem dL_law_892 : decode cL_law 892 = .ok (.iadd, 1) := by decide +kernel
theorem dL_law_893 : decode cL_law 893 = .ok (.iaload, 1) := by decide +kernel
theorem dL_law_894 : decode cL_law 894 = .ok (.aload_n 0, 1) := by decide +kernel
theorem dL_law_895 : decode cL_law 895 = .ok (.iload_n 3, 1) := by decide +kernel
theorem dL_law_896 : decode cL_law 896 = .ok (.iconst 3, 1) := by decide +kernel
theorem dL_law_897 : decode cL_law 897 = .ok (.iadd, 1) := by decide +kernel
theorem dL_law_898 : decode cL_law 898 = .ok (.iaload, 1) := by decide +kernel
theorem dL_law_899 : decode cL_law 899 = .ok (.ifCond .eq 7, 3) := by decide +kernel
theorem dL_law_902 : decode cL_law 902 = .ok (.iconst 1, 1) := by decide +kernel
theorem dL_law_903 : decode cL_law 903 = .ok (.goto 4, 3) := by decide +kernel
theorem dL_law_906 : decode cL_law 906 = .ok (.iconst 0, 1) := by decide +kernel
theorem dL_law_907 : decode cL_law 907 = .ok (.invokevirtual 113, 3) := by decide +kernel
theorem dL_law_910 : decode cL_law 910 = .ok (.if_icmp .eq 100, 3) := by decide +kernel
theorem dL_law_913 : decode cL_law 913 = .ok (.iconst 0, 1) := by decide +kernel
theorem dL_law_914 : decode cL_law 914 = .ok (.ireturn, 1) := by decide +kernel
theorem dL_law_915 : decode cL_law 915 = .ok (.aload_n 1, 1) := by decide +kernel
theorem dL_law_916 : decode cL_law 916 = .ok (.invokevirtual 114, 3) := by decide +kernel
theorem dL_law_919 : decode cL_law 919 = .ok (.aload_n 2, 1) := by decide +kernel
theorem dL_law_920 : decode cL_law 920 = .ok (.invokevirtual 117, 3) := by decide +kernel
theorem dL_law_923 : decode cL_law 923 = .ok (.if_icmp .eq 87, 3) := by decide +kernel
theorem dL_law_926 : decode cL_law 926 = .ok (.iconst 0, 1) := by decide +kernel
theorem dL_law_927 : decode cL_law 927 = .ok (.ireturn, 1) := by decide +kernel
theorem dL_law_928 : decode cL_law 928 = .ok (.aload_n 1, 1) := by decide +kernel
theorem dL_law_929 : decode cL_law 929 = .ok (.invokevirtual 118, 3) := by decide +kernel
theorem dL_law_932 : decode cL_law 932 = .ok (.aload_n 2, 1) := by decide +kernel
theorem dL_law_933 : decode cL_law 933 = .ok (.invokevirtual 121, 3) := by decide +kernel
theorem dL_law_936 : decode cL_law 936 = .ok (.if_icmp .eq 74, 3) := by decide +kernel
theorem dL_law_939 : decode cL_law 939 = .ok (.iconst 0, 1) := by decide +kernel
theorem dL_law_940 : decode cL_law 940 = .ok (.ireturn, 1) := by decide +kernel
theorem dL_law_941 : decode cL_law 941 = .ok (.aload_n 1, 1) := by decide +kernel
theorem dL_law_942 : decode cL_law 942 = .ok (.aload_n 0, 1) := by decide +kernel
theorem dL_law_943 : decode cL_law 943 = .ok (.iload_n 3, 1) := by decide +kernel
theorem dL_law_944 : decode cL_law 944 = .ok (.iconst 1, 1) := by decide +kernel
theorem dL_law_945 : decode cL_law 945 = .ok (.iadd, 1) := by decide +kernel
theorem dL_law_946 : decode cL_law 946 = .ok (.iaload, 1) := by decide +kernel
theorem dL_law_947 : decode cL_law 947 = .ok (.invokevirtual 122, 3) := by decide +kernel
theorem dL_law_950 : decode cL_law 950 = .ok (.aload_n 2, 1) := by decide +kernel
theorem dL_law_951 : decode cL_law 951 = .ok (.aload_n 0, 1) := by decide +kernel
theorem dL_law_952 : decode cL_law 952 = .ok (.iload_n 3, 1) := by decide +kernel
theorem dL_law_953 : decode cL_law 953 = .ok (.iconst 1, 1) := by decide +kernel
theorem dL_law_954 : decode cL_law 954 = .ok (.iadd, 1) := by decide +kernel
theorem dL_law_955 : decode cL_law 955 = .ok (.iaload, 1) := by decide +kernel
theorem dL_law_956 : decode cL_law 956 = .ok (.invokevirtual 125, 3) := by decide +kernel
theorem dL_law_959 : decode cL_law 959 = .ok (.if_icmp .eq 51, 3) := by decide +kernel
theorem dL_law_962 : decode cL_law 962 = .ok (.iconst 0, 1) := by decide +kernel
theorem dL_law_963 : decode cL_law 963 = .ok (.ireturn, 1) := by decide +kernel
theorem dL_law_964 : decode cL_law 964 = .ok (.aload_n 1, 1) := by decide +kernel
theorem dL_law_965 : decode cL_law 965 = .ok (.aload_n 0, 1) := by decide +kernel
theorem dL_law_966 : decode cL_law 966 = .ok (.iload_n 3, 1) := by decide +kernel
theorem dL_law_967 : decode cL_law 967 = .ok (.iconst 1, 1) := by decide +kernel
theorem dL_law_968 : decode cL_law 968 = .ok (.iadd, 1) := by decide +kernel
theorem dL_law_969 : decode cL_law 969 = .ok (.iaload, 1) := by decide +kernel
theorem dL_law_970 : decode cL_law 970 = .ok (.invokevirtual 126, 3) := by decide +kernel
theorem dL_law_973 : decode cL_law 973 = .ok (.aload_n 2, 1) := by decide +kernel
theorem dL_law_974 : decode cL_law 974 = .ok (.aload_n 0, 1) := by decide +kernel
theorem dL_law_975 : decode cL_law 975 = .ok (.iload_n 3, 1) := by decide +kernel
theorem dL_law_976 : decode cL_law 976 = .ok (.iconst 1, 1) := by decide +kernel
theorem dL_law_977 : decode cL_law 977 = .ok (.iadd, 1) := by decide +kernel
theorem dL_law_978 : decode cL_law 978 = .ok (.iaload, 1) := by decide +kernel
theorem dL_law_979 : decode cL_law 979 = .ok (.invokevirtual 129, 3) := by decide +kernel
theorem dL_law_982 : decode cL_law 982 = .ok (.if_icmp .eq 28, 3) := by decide +kernel
theorem dL_law_985 : decode cL_law 985 = .ok (.iconst 0, 1) := by decide +kernel
theorem dL_law_986 : decode cL_law 986 = .ok (.ireturn, 1) := by decide +kernel
theorem dL_law_987 : decode cL_law 987 = .ok (.aload_n 1, 1) := by decide +kernel
theorem dL_law_988 : decode cL_law 988 = .ok (.aload_n 0, 1) := by decide +kernel
theorem dL_law_989 : decode cL_law 989 = .ok (.iload_n 3, 1) := by decide +kernel
theorem dL_law_990 : decode cL_law 990 = .ok (.iconst 1, 1) := by decide +kernel
theorem dL_law_991 : decode cL_law 991 = .ok (.iadd, 1) := by decide +kernel
theorem dL_law_992 : decode cL_law 992 = .ok (.iaload, 1) := by decide +kernel
theorem dL_law_993 : decode cL_law 993 = .ok (.invokevirtual 130, 3) := by decide +kernel
theorem dL_law_996 : decode cL_law 996 = .ok (.aload_n 2, 1) := by decide +kernel
theorem dL_law_997 : decode cL_law 997 = .ok (.aload_n 0, 1) := by decide +kernel
theorem dL_law_998 : decode cL_law 998 = .ok (.iload_n 3, 1) := by decide +kernel
theorem dL_law_999 : decode cL_law 999 = .ok (.iconst 1, 1) := by decide +kernel
theorem dL_law_1000 : decode cL_law 1000 = .ok (.iadd, 1) := by decide +kernel
theorem dL_law_1001 : decode cL_law 1001 = .ok (.iaload, 1) := by decide +kernel
theorem dL_law_1002 : decode cL_law 1002 = .ok (.invokevirtual 133, 3) := by decide +kernel
theorem dL_law_1005 : decode cL_law 1005 = .ok (.if_icmp .eq 5, 3) := by decide +kernel
theorem dL_law_1008 : decode cL_law 1008 = .ok (.iconst 0, 1) := by decide +kernel
theorem dL_law_1009 : decode cL_law 1009 = .ok (.ireturn, 1) := by decide +kernel
theorem dL_law_1010 : decode cL_law 1010 = .ok (.iinc 3 6, 3) := by decide +kernel
theorem dL_law_1013 : decode cL_law 1013 = .ok (.goto (-995), 3) := by decide +kernel
theorem dL_law_1016 : decode cL_law 1016 = .ok (.iconst 1, 1) := by decide +kernel
theorem dL_law_1017 : decode cL_law 1017 = .ok (.ireturn, 1) := by decide +kernel
theorem dJ0_length_8abf5_0 : decode cJ0_length_8abf5 0 = .ok (.aload_n 0, 1) := by decide +kernel
theorem dJ0_length_8abf5_1 : decode cJ0_length_8abf5 1 = .ok (.getfield 9, 3) := by decide +kernel
theorem dJ0_length_8abf5_4 : decode cJ0_length_8abf5 4 = .ok (.arraylength, 1) := by decide +kernel
theorem dJ0_length_8abf5_5 : decode cJ0_length_8abf5 5 = .ok (.aload_n 0, 1) := by decide +kernel
theorem dJ0_length_8abf5_6 : decode cJ0_length_8abf5 6 = .ok (.invokevirtual 335, 3) := by decide +kernel
theorem dJ0_length_8abf5_9 : decode cJ0_length_8abf5 9 = .ok (.ishr, 1) := by decide +kernel
theorem dJ0_length_8abf5_10 : decode cJ0_length_8abf5 10 = .ok (.ireturn, 1) := by decide +kernel
theorem dJ0_charAt_5068e_0 : decode cJ0_charAt_5068e 0 = .ok (.aload_n 0, 1) := by decide +kernel
theorem dJ0_charAt_5068e_1 : decode cJ0_charAt_5068e 1 = .ok (.invokevirtual 492, 3) := by decide +kernel
theorem dJ0_charAt_5068e_4 : decode cJ0_charAt_5068e 4 = .ok (.ifCond .eq 12, 3) := by decide +kernel
theorem dJ0_charAt_5068e_7 : decode cJ0_charAt_5068e 7 = .ok (.aload_n 0, 1) := by decide +kernel
theorem dJ0_charAt_5068e_8 : decode cJ0_charAt_5068e 8 = .ok (.getfield 9, 3) := by decide +kernel
theorem dJ0_charAt_5068e_11 : decode cJ0_charAt_5068e 11 = .ok (.iload_n 1, 1) := by decide +kernel
theorem dJ0_charAt_5068e_12 : decode cJ0_charAt_5068e 12 = .ok (.invokestatic 495, 3) := by decide +kernel
theorem dJ0_charAt_5068e_15 : decode cJ0_charAt_5068e 15 = .ok (.ireturn, 1) := by decide +kernel
theorem dJ0_charAt_5068e_16 : decode cJ0_charAt_5068e 16 = .ok (.aload_n 0, 1) := by decide +kernel
theorem dJ0_charAt_5068e_17 : decode cJ0_charAt_5068e 17 = .ok (.getfield 9, 3) := by decide +kernel
theorem dJ0_charAt_5068e_20 : decode cJ0_charAt_5068e 20 = .ok (.iload_n 1, 1) := by decide +kernel
theorem dJ0_charAt_5068e_21 : decode cJ0_charAt_5068e 21 = .ok (.invokestatic 498, 3) := by decide +kernel
theorem dJ0_charAt_5068e_24 : decode cJ0_charAt_5068e 24 = .ok (.ireturn, 1) := by decide +kernel
theorem dJ0_coder_7d493_0 : decode cJ0_coder_7d493 0 = .ok (.getstatic 38, 3) := by decide +kernel
theorem dJ0_coder_7d493_3 : decode cJ0_coder_7d493 3 = .ok (.ifCond .eq 10, 3) := by decide +kernel
theorem dJ0_coder_7d493_6 : decode cJ0_coder_7d493 6 = .ok (.aload_n 0, 1) := by decide +kernel
theorem dJ0_coder_7d493_7 : decode cJ0_coder_7d493 7 = .ok (.getfield 15, 3) := by decide +kernel
theorem dJ0_coder_7d493_10 : decode cJ0_coder_7d493 10 = .ok (.goto 4, 3) := by decide +kernel
theorem dJ0_coder_7d493_13 : decode cJ0_coder_7d493 13 = .ok (.iconst 1, 1) := by decide +kernel
theorem dJ0_coder_7d493_14 : decode cJ0_coder_7d493 14 = .ok (.ireturn, 1) := by decide +kernel
theorem dJ0_isLatin1_aae02_0 : decode cJ0_isLatin1_aae02 0 = .ok (.getstatic 38, 3) := by decide +kernel
theorem dJ0_isLatin1_aae02_3 : decode cJ0_isLatin1_aae02 3 = .ok (.ifCond .eq 14, 3) := by decide +kernel
theorem dJ0_isLatin1_aae02_6 : decode cJ0_isLatin1_aae02 6 = .ok (.aload_n 0, 1) := by decide +kernel
theorem dJ0_isLatin1_aae02_7 : decode cJ0_isLatin1_aae02 7 = .ok (.getfield 15, 3) := by decide +kernel
theorem dJ0_isLatin1_aae02_10 : decode cJ0_isLatin1_aae02 10 = .ok (.ifCond .ne 7, 3) := by decide +kernel
theorem dJ0_isLatin1_aae02_13 : decode cJ0_isLatin1_aae02 13 = .ok (.iconst 1, 1) := by decide +kernel
theorem dJ0_isLatin1_aae02_14 : decode cJ0_isLatin1_aae02 14 = .ok (.goto 4, 3) := by decide +kernel
theorem dJ0_isLatin1_aae02_17 : decode cJ0_isLatin1_aae02 17 = .ok (.iconst 0, 1) := by decide +kernel
theorem dJ0_isLatin1_aae02_18 : decode cJ0_isLatin1_aae02 18 = .ok (.ireturn, 1) := by decide +kernel
theorem dJ0_checkIndex_df160_0 : decode cJ0_checkIndex_df160 0 = .ok (.iload_n 0, 1) := by decide +kernel
theorem dJ0_checkIndex_df160_1 : decode cJ0_checkIndex_df160 1 = .ok (.iload_n 1, 1) := by decide +kernel
theorem dJ0_checkIndex_df160_2 : decode cJ0_checkIndex_df160 2 = .ok (.getstatic 1053, 3) := by decide +kernel
theorem dJ0_checkIndex_df160_5 : decode cJ0_checkIndex_df160 5 = .ok (.invokestatic 1059, 3) := by decide +kernel
theorem dJ0_checkIndex_df160_8 : decode cJ0_checkIndex_df160 8 = .ok (.pop, 1) := by decide +kernel
theorem dJ0_checkIndex_df160_9 : decode cJ0_checkIndex_df160 9 = .ok (.return_, 1) := by decide +kernel
theorem dJ1_charAt_3b067_0 : decode cJ1_charAt_3b067 0 = .ok (.iload_n 1, 1) := by decide +kernel
theorem dJ1_charAt_3b067_1 : decode cJ1_charAt_3b067 1 = .ok (.aload_n 0, 1) := by decide +kernel
theorem dJ1_charAt_3b067_2 : decode cJ1_charAt_3b067 2 = .ok (.arraylength, 1) := by decide +kernel
theorem dJ1_charAt_3b067_3 : decode cJ1_charAt_3b067 3 = .ok (.invokestatic 9, 3) := by decide +kernel
theorem dJ1_charAt_3b067_6 : decode cJ1_charAt_3b067 6 = .ok (.aload_n 0, 1) := by decide +kernel
theorem dJ1_charAt_3b067_7 : decode cJ1_charAt_3b067 7 = .ok (.iload_n 1, 1) := by decide +kernel
theorem dJ1_charAt_3b067_8 : decode cJ1_charAt_3b067 8 = .ok (.baload, 1) := by decide +kernel
theorem dJ1_charAt_3b067_9 : decode cJ1_charAt_3b067 9 = .ok (.sipush 255, 3) := by decide +kernel
theorem dJ1_charAt_3b067_12 : decode cJ1_charAt_3b067 12 = .ok (.iand, 1) := by decide +kernel
theorem dJ1_charAt_3b067_13 : decode cJ1_charAt_3b067 13 = .ok (.i2c, 1) := by decide +kernel
theorem dJ1_charAt_3b067_14 : decode cJ1_charAt_3b067 14 = .ok (.ireturn, 1) := by decide +kernel
theorem dJ3_checkIndex_8e157_0 : decode cJ3_checkIndex_8e157 0 = .ok (.iload_n 0, 1) := by decide +kernel
theorem dJ3_checkIndex_8e157_1 : decode cJ3_checkIndex_8e157 1 = .ok (.ifCond .lt 8, 3) := by decide +kernel
theorem dJ3_checkIndex_8e157_4 : decode cJ3_checkIndex_8e157 4 = .ok (.iload_n 0, 1) := by decide +kernel
theorem dJ3_checkIndex_8e157_5 : decode cJ3_checkIndex_8e157 5 = .ok (.iload_n 1, 1) := by decide +kernel
theorem dJ3_checkIndex_8e157_6 : decode cJ3_checkIndex_8e157 6 = .ok (.if_icmp .lt 10, 3) := by decide +kernel
theorem dJ3_checkIndex_8e157_9 : decode cJ3_checkIndex_8e157 9 = .ok (.aload_n 2, 1) := by decide +kernel
theorem dJ3_checkIndex_8e157_10 : decode cJ3_checkIndex_8e157 10 = .ok (.iload_n 0, 1) := by decide +kernel
theorem dJ3_checkIndex_8e157_11 : decode cJ3_checkIndex_8e157 11 = .ok (.iload_n 1, 1) := by decide +kernel
theorem dJ3_checkIndex_8e157_12 : decode cJ3_checkIndex_8e157 12 = .ok (.invokestatic 95, 3) := by decide +kernel
theorem dJ3_checkIndex_8e157_15 : decode cJ3_checkIndex_8e157 15 = .ok (.athrow, 1) := by decide +kernel
theorem dJ3_checkIndex_8e157_16 : decode cJ3_checkIndex_8e157 16 = .ok (.iload_n 0, 1) := by decide +kernel
theorem dJ3_checkIndex_8e157_17 : decode cJ3_checkIndex_8e157 17 = .ok (.ireturn, 1) := by decide +kernel
theorem dJ7_fill_53178_0 : decode cJ7_fill_53178 0 = .ok (.iconst 0, 1) := by decide +kernel
theorem dJ7_fill_53178_1 : decode cJ7_fill_53178 1 = .ok (.istore_n 2, 1) := by decide +kernel
theorem dJ7_fill_53178_2 : decode cJ7_fill_53178 2 = .ok (.aload_n 0, 1) := by decide +kernel
theorem dJ7_fill_53178_3 : decode cJ7_fill_53178 3 = .ok (.arraylength, 1) := by decide +kernel
theorem dJ7_fill_53178_4 : decode cJ7_fill_53178 4 = .ok (.istore_n 3, 1) := by decide +kernel
theorem dJ7_fill_53178_5 : decode cJ7_fill_53178 5 = .ok (.iload_n 2, 1) := by decide +kernel
theorem dJ7_fill_53178_6 : decode cJ7_fill_53178 6 = .ok (.iload_n 3, 1) := by decide +kernel
theorem dJ7_fill_53178_7 : decode cJ7_fill_53178 7 = .ok (.if_icmp .ge 13, 3) := by decide +kernel
theorem dJ7_fill_53178_10 : decode cJ7_fill_53178 10 = .ok (.aload_n 0, 1) := by decide +kernel
theorem dJ7_fill_53178_11 : decode cJ7_fill_53178 11 = .ok (.iload_n 2, 1) := by decide +kernel
theorem dJ7_fill_53178_12 : decode cJ7_fill_53178 12 = .ok (.iload_n 1, 1) := by decide +kernel
theorem dJ7_fill_53178_13 : decode cJ7_fill_53178 13 = .ok (.iastore, 1) := by decide +kernel
theorem dJ7_fill_53178_14 : decode cJ7_fill_53178 14 = .ok (.iinc 2 1, 3) := by decide +kernel
theorem dJ7_fill_53178_17 : decode cJ7_fill_53178 17 = .ok (.goto (-12), 3) := by decide +kernel
theorem dJ7_fill_53178_20 : decode cJ7_fill_53178 20 = .ok (.return_, 1) := by decide +kernel
