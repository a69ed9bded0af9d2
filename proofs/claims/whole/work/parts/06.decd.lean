theorem dX8_week_38 : decode cX8_week 38 = .ok (.goto (-19), 3) := by decide +kernel
theorem dX8_week_41 : decode cX8_week 41 = .ok (.iload_n 2, 1) := by decide +kernel
theorem dX8_week_42 : decode cX8_week 42 = .ok (.ireturn, 1) := by decide +kernel
theorem dX8_draw_0 : decode cX8_draw 0 = .ok (.aload_n 0, 1) := by decide +kernel
theorem dX8_draw_1 : decode cX8_draw 1 = .ok (.aload_n 0, 1) := by decide +kernel
theorem dX8_draw_2 : decode cX8_draw 2 = .ok (.getfield 266, 3) := by decide +kernel
theorem dX8_draw_5 : decode cX8_draw 5 = .ok (.i2l, 1) := by decide +kernel
theorem dX8_draw_6 : decode cX8_draw 6 = .ok (.ldc2_w 269, 3) := by decide +kernel
theorem dX8_draw_9 : decode cX8_draw 9 = .ok (.lmul, 1) := by decide +kernel
theorem dX8_draw_10 : decode cX8_draw 10 = .ok (.ldc2_w 271, 3) := by decide +kernel
theorem dX8_draw_13 : decode cX8_draw 13 = .ok (.ladd, 1) := by decide +kernel
theorem dX8_draw_14 : decode cX8_draw 14 = .ok (.ldc2_w 273, 3) := by decide +kernel
theorem dX8_draw_17 : decode cX8_draw 17 = .ok (.lrem, 1) := by decide +kernel
theorem dX8_draw_18 : decode cX8_draw 18 = .ok (.l2i, 1) := by decide +kernel
theorem dX8_draw_19 : decode cX8_draw 19 = .ok (.putfield 266, 3) := by decide +kernel
theorem dX8_draw_22 : decode cX8_draw 22 = .ok (.aload_n 0, 1) := by decide +kernel
theorem dX8_draw_23 : decode cX8_draw 23 = .ok (.getfield 266, 3) := by decide +kernel
theorem dX8_draw_26 : decode cX8_draw 26 = .ok (.ldc_w 275, 3) := by decide +kernel
theorem dX8_draw_29 : decode cX8_draw 29 = .ok (.idiv, 1) := by decide +kernel
theorem dX8_draw_30 : decode cX8_draw 30 = .ok (.iload_n 1, 1) := by decide +kernel
theorem dX8_draw_31 : decode cX8_draw 31 = .ok (.irem, 1) := by decide +kernel
theorem dX8_draw_32 : decode cX8_draw 32 = .ok (.ireturn, 1) := by decide +kernel
theorem dX8_drift_0 : decode cX8_drift 0 = .ok (.iload_n 1, 1) := by decide +kernel
theorem dX8_drift_1 : decode cX8_drift 1 = .ok (.i2l, 1) := by decide +kernel
theorem dX8_drift_2 : decode cX8_drift 2 = .ok (.lconst 1, 1) := by decide +kernel
theorem dX8_drift_3 : decode cX8_drift 3 = .ok (.ldc2_w 261, 3) := by decide +kernel
theorem dX8_drift_6 : decode cX8_drift 6 = .ok (.invokestatic 102, 3) := by decide +kernel
theorem dX8_drift_9 : decode cX8_drift 9 = .ok (.ifCond .ne 6, 3) := by decide +kernel
theorem dX8_drift_12 : decode cX8_drift 12 = .ok (.ldc 117, 2) := by decide +kernel
theorem dX8_drift_14 : decode cX8_drift 14 = .ok (.ireturn, 1) := by decide +kernel
theorem dX8_drift_15 : decode cX8_drift 15 = .ok (.aload_n 0, 1) := by decide +kernel
theorem dX8_drift_16 : decode cX8_drift 16 = .ok (.getfield 96, 3) := by decide +kernel
theorem dX8_drift_19 : decode cX8_drift 19 = .ok (.ifCond .ne 6, 3) := by decide +kernel
theorem dX8_drift_22 : decode cX8_drift 22 = .ok (.ldc 235, 2) := by decide +kernel
theorem dX8_drift_24 : decode cX8_drift 24 = .ok (.ireturn, 1) := by decide +kernel
theorem dX8_drift_25 : decode cX8_drift 25 = .ok (.iconst 0, 1) := by decide +kernel
theorem dX8_drift_26 : decode cX8_drift 26 = .ok (.istore_n 2, 1) := by decide +kernel
theorem dX8_drift_27 : decode cX8_drift 27 = .ok (.iconst 0, 1) := by decide +kernel
theorem dX8_drift_28 : decode cX8_drift 28 = .ok (.istore_n 3, 1) := by decide +kernel
theorem dX8_drift_29 : decode cX8_drift 29 = .ok (.iload_n 3, 1) := by decide +kernel
theorem dX8_drift_30 : decode cX8_drift 30 = .ok (.iload_n 1, 1) := by decide +kernel
theorem dX8_drift_31 : decode cX8_drift 31 = .ok (.if_icmp .ge 43, 3) := by decide +kernel
theorem dX8_drift_34 : decode cX8_drift 34 = .ok (.aload_n 0, 1) := by decide +kernel
theorem dX8_drift_35 : decode cX8_drift 35 = .ok (.getfield 106, 3) := by decide +kernel
theorem dX8_drift_38 : decode cX8_drift 38 = .ok (.bipush 32, 2) := by decide +kernel
theorem dX8_drift_40 : decode cX8_drift 40 = .ok (.if_icmp .ge 17, 3) := by decide +kernel
theorem dX8_drift_43 : decode cX8_drift 43 = .ok (.aload_n 0, 1) := by decide +kernel
theorem dX8_drift_44 : decode cX8_drift 44 = .ok (.aload_n 0, 1) := by decide +kernel
theorem dX8_drift_45 : decode cX8_drift 45 = .ok (.aload_n 0, 1) := by decide +kernel
theorem dX8_drift_46 : decode cX8_drift 46 = .ok (.getfield 96, 3) := by decide +kernel
theorem dX8_drift_49 : decode cX8_drift 49 = .ok (.invokevirtual 276, 3) := by decide +kernel
theorem dX8_drift_52 : decode cX8_drift 52 = .ok (.invokevirtual 246, 3) := by decide +kernel
theorem dX8_drift_55 : decode cX8_drift 55 = .ok (.istore 4, 2) := by decide +kernel
theorem dX8_drift_57 : decode cX8_drift 57 = .ok (.aload_n 0, 1) := by decide +kernel
theorem dX8_drift_58 : decode cX8_drift 58 = .ok (.invokevirtual 263, 3) := by decide +kernel
theorem dX8_drift_61 : decode cX8_drift 61 = .ok (.istore 4, 2) := by decide +kernel
theorem dX8_drift_63 : decode cX8_drift 63 = .ok (.iload_n 2, 1) := by decide +kernel
theorem dX8_drift_64 : decode cX8_drift 64 = .ok (.iload 4, 2) := by decide +kernel
theorem dX8_drift_66 : decode cX8_drift 66 = .ok (.iadd, 1) := by decide +kernel
theorem dX8_drift_67 : decode cX8_drift 67 = .ok (.istore_n 2, 1) := by decide +kernel
theorem dX8_drift_68 : decode cX8_drift 68 = .ok (.iinc 3 1, 3) := by decide +kernel
theorem dX8_drift_71 : decode cX8_drift 71 = .ok (.goto (-42), 3) := by decide +kernel
theorem dX8_drift_74 : decode cX8_drift 74 = .ok (.iload_n 2, 1) := by decide +kernel
theorem dX8_drift_75 : decode cX8_drift 75 = .ok (.ireturn, 1) := by decide +kernel
theorem dX8_gain_0 : decode cX8_gain 0 = .ok (.aload_n 0, 1) := by decide +kernel
theorem dX8_gain_1 : decode cX8_gain 1 = .ok (.iload_n 1, 1) := by decide +kernel
theorem dX8_gain_2 : decode cX8_gain 2 = .ok (.invokevirtual 218, 3) := by decide +kernel
theorem dX8_gain_5 : decode cX8_gain 5 = .ok (.ifCond .eq 20, 3) := by decide +kernel
theorem dX8_gain_8 : decode cX8_gain 8 = .ok (.aload_n 0, 1) := by decide +kernel
theorem dX8_gain_9 : decode cX8_gain 9 = .ok (.iload_n 2, 1) := by decide +kernel
theorem dX8_gain_10 : decode cX8_gain 10 = .ok (.invokevirtual 232, 3) := by decide +kernel
theorem dX8_gain_13 : decode cX8_gain 13 = .ok (.ifCond .eq 12, 3) := by decide +kernel
theorem dX8_gain_16 : decode cX8_gain 16 = .ok (.aload_n 0, 1) := by decide +kernel
theorem dX8_gain_17 : decode cX8_gain 17 = .ok (.iload_n 1, 1) := by decide +kernel
theorem dX8_gain_18 : decode cX8_gain 18 = .ok (.iload_n 2, 1) := by decide +kernel
theorem dX8_gain_19 : decode cX8_gain 19 = .ok (.invokevirtual 249, 3) := by decide +kernel
theorem dX8_gain_22 : decode cX8_gain 22 = .ok (.goto 5, 3) := by decide +kernel
theorem dX8_gain_25 : decode cX8_gain 25 = .ok (.ldc 222, 2) := by decide +kernel
theorem dX8_gain_27 : decode cX8_gain 27 = .ok (.ireturn, 1) := by decide +kernel
theorem dX8_down_0 : decode cX8_down 0 = .ok (.aload_n 0, 1) := by decide +kernel
theorem dX8_down_1 : decode cX8_down 1 = .ok (.iload_n 1, 1) := by decide +kernel
theorem dX8_down_2 : decode cX8_down 2 = .ok (.invokevirtual 229, 3) := by decide +kernel
theorem dX8_down_5 : decode cX8_down 5 = .ok (.ifCond .eq 16, 3) := by decide +kernel
theorem dX8_down_8 : decode cX8_down 8 = .ok (.iload_n 3, 1) := by decide +kernel
theorem dX8_down_9 : decode cX8_down 9 = .ok (.iconst (-1), 1) := by decide +kernel
theorem dX8_down_10 : decode cX8_down 10 = .ok (.if_icmp .eq 14, 3) := by decide +kernel
theorem dX8_down_13 : decode cX8_down 13 = .ok (.aload_n 0, 1) := by decide +kernel
theorem dX8_down_14 : decode cX8_down 14 = .ok (.iload_n 3, 1) := by decide +kernel
theorem dX8_down_15 : decode cX8_down 15 = .ok (.invokevirtual 218, 3) := by decide +kernel
theorem dX8_down_18 : decode cX8_down 18 = .ok (.ifCond .ne 6, 3) := by decide +kernel
theorem dX8_down_21 : decode cX8_down 21 = .ok (.ldc 222, 2) := by decide +kernel
theorem dX8_down_23 : decode cX8_down 23 = .ok (.ireturn, 1) := by decide +kernel
theorem dX8_down_24 : decode cX8_down 24 = .ok (.iload_n 2, 1) := by decide +kernel
theorem dX8_down_25 : decode cX8_down 25 = .ok (.i2l, 1) := by decide +kernel
theorem dX8_down_26 : decode cX8_down 26 = .ok (.lconst 1, 1) := by decide +kernel
theorem dX8_down_27 : decode cX8_down 27 = .ok (.ldc2_w 279, 3) := by decide +kernel
theorem dX8_down_30 : decode cX8_down 30 = .ok (.invokestatic 102, 3) := by decide +kernel
theorem dX8_down_33 : decode cX8_down 33 = .ok (.ifCond .ne 6, 3) := by decide +kernel
theorem dX8_down_36 : decode cX8_down 36 = .ok (.ldc 117, 2) := by decide +kernel
theorem dX8_down_38 : decode cX8_down 38 = .ok (.ireturn, 1) := by decide +kernel
theorem dX8_down_39 : decode cX8_down 39 = .ok (.aload_n 0, 1) := by decide +kernel
theorem dX8_down_40 : decode cX8_down 40 = .ok (.getfield 106, 3) := by decide +kernel
theorem dX8_down_43 : decode cX8_down 43 = .ok (.bipush 32, 2) := by decide +kernel
theorem dX8_down_45 : decode cX8_down 45 = .ok (.if_icmp .ne 6, 3) := by decide +kernel
theorem dX8_down_48 : decode cX8_down 48 = .ok (.ldc 121, 2) := by decide +kernel
theorem dX8_down_50 : decode cX8_down 50 = .ok (.ireturn, 1) := by decide +kernel
theorem dX8_down_51 : decode cX8_down 51 = .ok (.aload_n 0, 1) := by decide +kernel
theorem dX8_down_52 : decode cX8_down 52 = .ok (.iconst 2, 1) := by decide +kernel
theorem dX8_down_53 : decode cX8_down 53 = .ok (.invokevirtual 281, 3) := by decide +kernel
theorem dX8_down_56 : decode cX8_down 56 = .ok (.iconst 0, 1) := by decide +kernel
theorem dX8_down_57 : decode cX8_down 57 = .ok (.istore 4, 2) := by decide +kernel
theorem dX8_down_59 : decode cX8_down 59 = .ok (.iload 4, 2) := by decide +kernel
theorem dX8_down_61 : decode cX8_down 61 = .ok (.iload_n 2, 1) := by decide +kernel
theorem dX8_down_62 : decode cX8_down 62 = .ok (.if_icmp .ge 15, 3) := by decide +kernel
theorem dX8_down_65 : decode cX8_down 65 = .ok (.aload_n 0, 1) := by decide +kernel
theorem dX8_down_66 : decode cX8_down 66 = .ok (.invokevirtual 263, 3) := by decide +kernel
theorem dX8_down_69 : decode cX8_down 69 = .ok (.istore 5, 2) := by decide +kernel
theorem dX8_down_71 : decode cX8_down 71 = .ok (.iinc 4 1, 3) := by decide +kernel
theorem dX8_down_74 : decode cX8_down 74 = .ok (.goto (-15), 3) := by decide +kernel
theorem dX8_down_77 : decode cX8_down 77 = .ok (.iconst 0, 1) := by decide +kernel
theorem dX8_down_78 : decode cX8_down 78 = .ok (.istore 4, 2) := by decide +kernel
theorem dX8_down_80 : decode cX8_down 80 = .ok (.iload 4, 2) := by decide +kernel
theorem dX8_down_82 : decode cX8_down 82 = .ok (.aload_n 0, 1) := by decide +kernel
theorem dX8_down_83 : decode cX8_down 83 = .ok (.getfield 99, 3) := by decide +kernel
theorem dX8_down_86 : decode cX8_down 86 = .ok (.if_icmp .ge 22, 3) := by decide +kernel
theorem dX8_down_89 : decode cX8_down 89 = .ok (.aload_n 0, 1) := by decide +kernel
theorem dX8_down_90 : decode cX8_down 90 = .ok (.getfield 56, 3) := by decide +kernel
theorem dX8_down_93 : decode cX8_down 93 = .ok (.iload 4, 2) := by decide +kernel
theorem dX8_down_95 : decode cX8_down 95 = .ok (.aload_n 0, 1) := by decide +kernel
theorem dX8_down_96 : decode cX8_down 96 = .ok (.iload 4, 2) := by decide +kernel
theorem dX8_down_98 : decode cX8_down 98 = .ok (.invokevirtual 223, 3) := by decide +kernel
theorem dX8_down_101 : decode cX8_down 101 = .ok (.iastore, 1) := by decide +kernel
theorem dX8_down_102 : decode cX8_down 102 = .ok (.iinc 4 1, 3) := by decide +kernel
theorem dX8_down_105 : decode cX8_down 105 = .ok (.goto (-25), 3) := by decide +kernel
theorem dX8_down_108 : decode cX8_down 108 = .ok (.aload_n 0, 1) := by decide +kernel
theorem dX8_down_109 : decode cX8_down 109 = .ok (.iconst 2, 1) := by decide +kernel
theorem dX8_down_110 : decode cX8_down 110 = .ok (.invokevirtual 285, 3) := by decide +kernel
theorem dX8_down_113 : decode cX8_down 113 = .ok (.aload_n 0, 1) := by decide +kernel
theorem dX8_down_114 : decode cX8_down 114 = .ok (.iload_n 1, 1) := by decide +kernel
theorem dX8_down_115 : decode cX8_down 115 = .ok (.invokevirtual 246, 3) := by decide +kernel
theorem dX8_down_118 : decode cX8_down 118 = .ok (.istore 4, 2) := by decide +kernel
theorem dX8_down_120 : decode cX8_down 120 = .ok (.iconst 0, 1) := by decide +kernel
theorem dX8_down_121 : decode cX8_down 121 = .ok (.istore 5, 2) := by decide +kernel
theorem dX8_down_123 : decode cX8_down 123 = .ok (.iload 5, 2) := by decide +kernel
theorem dX8_down_125 : decode cX8_down 125 = .ok (.iload_n 2, 1) := by decide +kernel
theorem dX8_down_126 : decode cX8_down 126 = .ok (.if_icmp .ge 15, 3) := by decide +kernel
theorem dX8_down_129 : decode cX8_down 129 = .ok (.aload_n 0, 1) := by decide +kernel
theorem dX8_down_130 : decode cX8_down 130 = .ok (.invokevirtual 263, 3) := by decide +kernel
theorem dX8_down_133 : decode cX8_down 133 = .ok (.istore 6, 2) := by decide +kernel
theorem dX8_down_135 : decode cX8_down 135 = .ok (.iinc 5 1, 3) := by decide +kernel
theorem dX8_down_138 : decode cX8_down 138 = .ok (.goto (-15), 3) := by decide +kernel
theorem dX8_down_141 : decode cX8_down 141 = .ok (.iconst 0, 1) := by decide +kernel
theorem dX8_down_142 : decode cX8_down 142 = .ok (.istore 5, 2) := by decide +kernel
theorem dX8_down_144 : decode cX8_down 144 = .ok (.iconst 0, 1) := by decide +kernel
theorem dX8_down_145 : decode cX8_down 145 = .ok (.istore 6, 2) := by decide +kernel
theorem dX8_down_147 : decode cX8_down 147 = .ok (.iload 6, 2) := by decide +kernel
theorem dX8_down_149 : decode cX8_down 149 = .ok (.aload_n 0, 1) := by decide +kernel
theorem dX8_down_150 : decode cX8_down 150 = .ok (.getfield 99, 3) := by decide +kernel
theorem dX8_down_153 : decode cX8_down 153 = .ok (.if_icmp .ge 43, 3) := by decide +kernel
theorem dX8_down_156 : decode cX8_down 156 = .ok (.iload 5, 2) := by decide +kernel
theorem dX8_down_158 : decode cX8_down 158 = .ok (.iload_n 3, 1) := by decide +kernel
theorem dX8_down_159 : decode cX8_down 159 = .ok (.iconst (-1), 1) := by decide +kernel
theorem dX8_down_160 : decode cX8_down 160 = .ok (.if_icmp .eq 9, 3) := by decide +kernel
theorem dX8_down_163 : decode cX8_down 163 = .ok (.iload 6, 2) := by decide +kernel
theorem dX8_down_165 : decode cX8_down 165 = .ok (.iload_n 3, 1) := by decide +kernel
theorem dX8_down_166 : decode cX8_down 166 = .ok (.if_icmp .ne 20, 3) := by decide +kernel
theorem dX8_down_169 : decode cX8_down 169 = .ok (.aload_n 0, 1) := by decide +kernel
theorem dX8_down_170 : decode cX8_down 170 = .ok (.iload 6, 2) := by decide +kernel
theorem dX8_down_172 : decode cX8_down 172 = .ok (.invokevirtual 223, 3) := by decide +kernel
theorem dX8_down_175 : decode cX8_down 175 = .ok (.aload_n 0, 1) := by decide +kernel
theorem dX8_down_176 : decode cX8_down 176 = .ok (.getfield 56, 3) := by decide +kernel
theorem dX8_down_179 : decode cX8_down 179 = .ok (.iload 6, 2) := by decide +kernel
theorem dX8_down_181 : decode cX8_down 181 = .ok (.iaload, 1) := by decide +kernel
theorem dX8_down_182 : decode cX8_down 182 = .ok (.isub, 1) := by decide +kernel
theorem dX8_down_183 : decode cX8_down 183 = .ok (.goto 4, 3) := by decide +kernel
theorem dX8_down_186 : decode cX8_down 186 = .ok (.iconst 0, 1) := by decide +kernel
theorem dX8_down_187 : decode cX8_down 187 = .ok (.iadd, 1) := by decide +kernel
theorem dX8_down_188 : decode cX8_down 188 = .ok (.istore 5, 2) := by decide +kernel
theorem dX8_down_190 : decode cX8_down 190 = .ok (.iinc 6 1, 3) := by decide +kernel
theorem dX8_down_193 : decode cX8_down 193 = .ok (.goto (-46), 3) := by decide +kernel
theorem dX8_down_196 : decode cX8_down 196 = .ok (.aload_n 0, 1) := by decide +kernel
theorem dX8_down_197 : decode cX8_down 197 = .ok (.iconst 2, 1) := by decide +kernel
theorem dX8_down_198 : decode cX8_down 198 = .ok (.invokevirtual 285, 3) := by decide +kernel
theorem dX8_down_201 : decode cX8_down 201 = .ok (.iload 5, 2) := by decide +kernel
theorem dX8_down_203 : decode cX8_down 203 = .ok (.ireturn, 1) := by decide +kernel
theorem dX8_betterBy_0 : decode cX8_betterBy 0 = .ok (.iconst 1, 1) := by decide +kernel
theorem dX8_betterBy_1 : decode cX8_betterBy 1 = .ok (.aload_n 0, 1) := by decide +kernel
theorem dX8_betterBy_2 : decode cX8_betterBy 2 = .ok (.getfield 22, 3) := by decide +kernel
theorem dX8_betterBy_5 : decode cX8_betterBy 5 = .ok (.iload_n 2, 1) := by decide +kernel
theorem dX8_betterBy_6 : decode cX8_betterBy 6 = .ok (.iaload, 1) := by decide +kernel
theorem dX8_betterBy_7 : decode cX8_betterBy 7 = .ok (.ishl, 1) := by decide +kernel
theorem dX8_betterBy_8 : decode cX8_betterBy 8 = .ok (.istore 4, 2) := by decide +kernel
theorem dX8_betterBy_10 : decode cX8_betterBy 10 = .ok (.iconst 0, 1) := by decide +kernel
theorem dX8_betterBy_11 : decode cX8_betterBy 11 = .ok (.istore 5, 2) := by decide +kernel
theorem dX8_betterBy_13 : decode cX8_betterBy 13 = .ok (.iload 5, 2) := by decide +kernel
theorem dX8_betterBy_15 : decode cX8_betterBy 15 = .ok (.aload_n 0, 1) := by decide +kernel
theorem dX8_betterBy_16 : decode cX8_betterBy 16 = .ok (.getfield 106, 3) := by decide +kernel
theorem dX8_betterBy_19 : decode cX8_betterBy 19 = .ok (.if_icmp .ge 44, 3) := by decide +kernel
theorem dX8_betterBy_22 : decode cX8_betterBy 22 = .ok (.iload 4, 2) := by decide +kernel
theorem dX8_betterBy_24 : decode cX8_betterBy 24 = .ok (.aload_n 0, 1) := by decide +kernel
theorem dX8_betterBy_25 : decode cX8_betterBy 25 = .ok (.getfield 25, 3) := by decide +kernel
theorem dX8_betterBy_28 : decode cX8_betterBy 28 = .ok (.iload 5, 2) := by decide +kernel
theorem dX8_betterBy_30 : decode cX8_betterBy 30 = .ok (.iaload, 1) := by decide +kernel
theorem dX8_betterBy_31 : decode cX8_betterBy 31 = .ok (.iload_n 1, 1) := by decide +kernel
theorem dX8_betterBy_32 : decode cX8_betterBy 32 = .ok (.if_icmp .ne 21, 3) := by decide +kernel
theorem dX8_betterBy_35 : decode cX8_betterBy 35 = .ok (.iload 5, 2) := by decide +kernel
theorem dX8_betterBy_37 : decode cX8_betterBy 37 = .ok (.iload_n 3, 1) := by decide +kernel
theorem dX8_betterBy_38 : decode cX8_betterBy 38 = .ok (.if_icmp .eq 15, 3) := by decide +kernel
theorem dX8_betterBy_41 : decode cX8_betterBy 41 = .ok (.iconst 1, 1) := by decide +kernel
theorem dX8_betterBy_42 : decode cX8_betterBy 42 = .ok (.aload_n 0, 1) := by decide +kernel
theorem dX8_betterBy_43 : decode cX8_betterBy 43 = .ok (.getfield 22, 3) := by decide +kernel
theorem dX8_betterBy_46 : decode cX8_betterBy 46 = .ok (.iload 5, 2) := by decide +kernel
theorem dX8_betterBy_48 : decode cX8_betterBy 48 = .ok (.iaload, 1) := by decide +kernel
theorem dX8_betterBy_49 : decode cX8_betterBy 49 = .ok (.ishl, 1) := by decide +kernel
theorem dX8_betterBy_50 : decode cX8_betterBy 50 = .ok (.goto 4, 3) := by decide +kernel
theorem dX8_betterBy_53 : decode cX8_betterBy 53 = .ok (.iconst 0, 1) := by decide +kernel
theorem dX8_betterBy_54 : decode cX8_betterBy 54 = .ok (.ior, 1) := by decide +kernel
theorem dX8_betterBy_55 : decode cX8_betterBy 55 = .ok (.istore 4, 2) := by decide +kernel
theorem dX8_betterBy_57 : decode cX8_betterBy 57 = .ok (.iinc 5 1, 3) := by decide +kernel
theorem dX8_betterBy_60 : decode cX8_betterBy 60 = .ok (.goto (-47), 3) := by decide +kernel
theorem dX8_betterBy_63 : decode cX8_betterBy 63 = .ok (.aload_n 0, 1) := by decide +kernel
theorem dX8_betterBy_64 : decode cX8_betterBy 64 = .ok (.iload_n 1, 1) := by decide +kernel
theorem dX8_betterBy_65 : decode cX8_betterBy 65 = .ok (.iload 4, 2) := by decide +kernel
theorem dX8_betterBy_67 : decode cX8_betterBy 67 = .ok (.invokevirtual 209, 3) := by decide +kernel
theorem dX8_betterBy_70 : decode cX8_betterBy 70 = .ok (.aload_n 0, 1) := by decide +kernel
theorem dX8_betterBy_71 : decode cX8_betterBy 71 = .ok (.iload_n 1, 1) := by decide +kernel
theorem dX8_betterBy_72 : decode cX8_betterBy 72 = .ok (.invokevirtual 223, 3) := by decide +kernel
theorem dX8_betterBy_75 : decode cX8_betterBy 75 = .ok (.isub, 1) := by decide +kernel
theorem dX8_betterBy_76 : decode cX8_betterBy 76 = .ok (.ireturn, 1) := by decide +kernel
theorem dX8_fromOf_0 : decode cX8_fromOf 0 = .ok (.aload_n 0, 1) := by decide +kernel
theorem dX8_fromOf_1 : decode cX8_fromOf 1 = .ok (.getfield 25, 3) := by decide +kernel
theorem dX8_fromOf_4 : decode cX8_fromOf 4 = .ok (.iload_n 1, 1) := by decide +kernel
theorem dX8_fromOf_5 : decode cX8_fromOf 5 = .ok (.iaload, 1) := by decide +kernel
theorem dX8_fromOf_6 : decode cX8_fromOf 6 = .ok (.ifCond .ge 12, 3) := by decide +kernel
theorem dX8_fromOf_9 : decode cX8_fromOf 9 = .ok (.aload_n 0, 1) := by decide +kernel
theorem dX8_fromOf_10 : decode cX8_fromOf 10 = .ok (.getfield 28, 3) := by decide +kernel
theorem dX8_fromOf_13 : decode cX8_fromOf 13 = .ok (.iload_n 1, 1) := by decide +kernel
theorem dX8_fromOf_14 : decode cX8_fromOf 14 = .ok (.iaload, 1) := by decide +kernel
theorem dX8_fromOf_15 : decode cX8_fromOf 15 = .ok (.goto 9, 3) := by decide +kernel
theorem dX8_fromOf_18 : decode cX8_fromOf 18 = .ok (.aload_n 0, 1) := by decide +kernel
theorem dX8_fromOf_19 : decode cX8_fromOf 19 = .ok (.getfield 25, 3) := by decide +kernel
theorem dX8_fromOf_22 : decode cX8_fromOf 22 = .ok (.iload_n 1, 1) := by decide +kernel
theorem dX8_fromOf_23 : decode cX8_fromOf 23 = .ok (.iaload, 1) := by decide +kernel
theorem dX8_fromOf_24 : decode cX8_fromOf 24 = .ok (.ireturn, 1) := by decide +kernel
theorem dX8_chain_0 : decode cX8_chain 0 = .ok (.aload_n 0, 1) := by decide +kernel
theorem dX8_chain_1 : decode cX8_chain 1 = .ok (.iload_n 1, 1) := by decide +kernel
theorem dX8_chain_2 : decode cX8_chain 2 = .ok (.invokevirtual 218, 3) := by decide +kernel
theorem dX8_chain_5 : decode cX8_chain 5 = .ok (.ifCond .eq 11, 3) := by decide +kernel
theorem dX8_chain_8 : decode cX8_chain 8 = .ok (.aload_n 0, 1) := by decide +kernel
theorem dX8_chain_9 : decode cX8_chain 9 = .ok (.iload_n 2, 1) := by decide +kernel
theorem dX8_chain_10 : decode cX8_chain 10 = .ok (.invokevirtual 229, 3) := by decide +kernel
theorem dX8_chain_13 : decode cX8_chain 13 = .ok (.ifCond .ne 6, 3) := by decide +kernel
theorem dX8_chain_16 : decode cX8_chain 16 = .ok (.ldc 222, 2) := by decide +kernel
theorem dX8_chain_18 : decode cX8_chain 18 = .ok (.ireturn, 1) := by decide +kernel
theorem dX8_chain_19 : decode cX8_chain 19 = .ok (.iconst 0, 1) := by decide +kernel
theorem dX8_chain_20 : decode cX8_chain 20 = .ok (.istore_n 3, 1) := by decide +kernel
theorem dX8_chain_21 : decode cX8_chain 21 = .ok (.iload_n 3, 1) := by decide +kernel
theorem dX8_chain_22 : decode cX8_chain 22 = .ok (.aload_n 0, 1) := by decide +kernel
theorem dX8_chain_23 : decode cX8_chain 23 = .ok (.getfield 106, 3) := by decide +kernel
theorem dX8_chain_26 : decode cX8_chain 26 = .ok (.if_icmp .ge 29, 3) := by decide +kernel
theorem dX8_chain_29 : decode cX8_chain 29 = .ok (.aload_n 0, 1) := by decide +kernel
theorem dX8_chain_30 : decode cX8_chain 30 = .ok (.getfield 59, 3) := by decide +kernel
theorem dX8_chain_33 : decode cX8_chain 33 = .ok (.iload_n 3, 1) := by decide +kernel
theorem dX8_chain_34 : decode cX8_chain 34 = .ok (.aload_n 0, 1) := by decide +kernel
theorem dX8_chain_35 : decode cX8_chain 35 = .ok (.getfield 25, 3) := by decide +kernel
theorem dX8_chain_38 : decode cX8_chain 38 = .ok (.iload_n 3, 1) := by decide +kernel
theorem dX8_chain_39 : decode cX8_chain 39 = .ok (.iaload, 1) := by decide +kernel
theorem dX8_chain_40 : decode cX8_chain 40 = .ok (.ifCond .ge 7, 3) := by decide +kernel
theorem dX8_chain_43 : decode cX8_chain 43 = .ok (.iconst 0, 1) := by decide +kernel
theorem dX8_chain_44 : decode cX8_chain 44 = .ok (.goto 4, 3) := by decide +kernel
theorem dX8_chain_47 : decode cX8_chain 47 = .ok (.iconst (-1), 1) := by decide +kernel
theorem dX8_chain_48 : decode cX8_chain 48 = .ok (.iastore, 1) := by decide +kernel
theorem dX8_chain_49 : decode cX8_chain 49 = .ok (.iinc 3 1, 3) := by decide +kernel
theorem dX8_chain_52 : decode cX8_chain 52 = .ok (.goto (-31), 3) := by decide +kernel
theorem dX8_chain_55 : decode cX8_chain 55 = .ok (.iconst 0, 1) := by decide +kernel
theorem dX8_chain_56 : decode cX8_chain 56 = .ok (.istore_n 3, 1) := by decide +kernel
theorem dX8_chain_57 : decode cX8_chain 57 = .ok (.iload_n 3, 1) := by decide +kernel
theorem dX8_chain_58 : decode cX8_chain 58 = .ok (.aload_n 0, 1) := by decide +kernel
theorem dX8_chain_59 : decode cX8_chain 59 = .ok (.getfield 106, 3) := by decide +kernel
theorem dX8_chain_62 : decode cX8_chain 62 = .ok (.if_icmp .gt 195, 3) := by decide +kernel
theorem dX8_chain_65 : decode cX8_chain 65 = .ok (.iconst 0, 1) := by decide +kernel
theorem dX8_chain_66 : decode cX8_chain 66 = .ok (.istore 4, 2) := by decide +kernel
theorem dX8_chain_68 : decode cX8_chain 68 = .ok (.iload 4, 2) := by decide +kernel
theorem dX8_chain_70 : decode cX8_chain 70 = .ok (.aload_n 0, 1) := by decide +kernel
theorem dX8_chain_71 : decode cX8_chain 71 = .ok (.getfield 106, 3) := by decide +kernel
theorem dX8_chain_74 : decode cX8_chain 74 = .ok (.if_icmp .ge 43, 3) := by decide +kernel
theorem dX8_chain_77 : decode cX8_chain 77 = .ok (.aload_n 0, 1) := by decide +kernel
theorem dX8_chain_78 : decode cX8_chain 78 = .ok (.getfield 59, 3) := by decide +kernel
theorem dX8_chain_81 : decode cX8_chain 81 = .ok (.iload 4, 2) := by decide +kernel
theorem dX8_chain_83 : decode cX8_chain 83 = .ok (.iaload, 1) := by decide +kernel
theorem dX8_chain_84 : decode cX8_chain 84 = .ok (.iload_n 3, 1) := by decide +kernel
theorem dX8_chain_85 : decode cX8_chain 85 = .ok (.if_icmp .ne 26, 3) := by decide +kernel
theorem dX8_chain_88 : decode cX8_chain 88 = .ok (.aload_n 0, 1) := by decide +kernel
theorem dX8_chain_89 : decode cX8_chain 89 = .ok (.getfield 22, 3) := by decide +kernel
theorem dX8_chain_92 : decode cX8_chain 92 = .ok (.iload 4, 2) := by decide +kernel
theorem dX8_chain_94 : decode cX8_chain 94 = .ok (.iaload, 1) := by decide +kernel
theorem dX8_chain_95 : decode cX8_chain 95 = .ok (.iload_n 2, 1) := by decide +kernel
theorem dX8_chain_96 : decode cX8_chain 96 = .ok (.if_icmp .ne 15, 3) := by decide +kernel
theorem dX8_chain_99 : decode cX8_chain 99 = .ok (.aload_n 0, 1) := by decide +kernel
theorem dX8_chain_100 : decode cX8_chain 100 = .ok (.iload 4, 2) := by decide +kernel
theorem dX8_chain_102 : decode cX8_chain 102 = .ok (.invokevirtual 288, 3) := by decide +kernel
theorem dX8_chain_105 : decode cX8_chain 105 = .ok (.iload_n 1, 1) := by decide +kernel
theorem dX8_chain_106 : decode cX8_chain 106 = .ok (.if_icmp .eq 5, 3) := by decide +kernel
theorem dX8_chain_109 : decode cX8_chain 109 = .ok (.iload_n 3, 1) := by decide +kernel
theorem dX8_chain_110 : decode cX8_chain 110 = .ok (.ireturn, 1) := by decide +kernel
theorem dX8_chain_111 : decode cX8_chain 111 = .ok (.iinc 4 1, 3) := by decide +kernel
theorem dX8_chain_114 : decode cX8_chain 114 = .ok (.goto (-46), 3) := by decide +kernel
theorem dX8_chain_117 : decode cX8_chain 117 = .ok (.iconst 0, 1) := by decide +kernel
theorem dX8_chain_118 : decode cX8_chain 118 = .ok (.istore 4, 2) := by decide +kernel
theorem dX8_chain_120 : decode cX8_chain 120 = .ok (.iload 4, 2) := by decide +kernel
theorem dX8_chain_122 : decode cX8_chain 122 = .ok (.aload_n 0, 1) := by decide +kernel
theorem dX8_chain_123 : decode cX8_chain 123 = .ok (.getfield 106, 3) := by decide +kernel
theorem dX8_chain_126 : decode cX8_chain 126 = .ok (.if_icmp .ge 125, 3) := by decide +kernel
theorem dX8_chain_129 : decode cX8_chain 129 = .ok (.iconst 0, 1) := by decide +kernel
theorem dX8_chain_130 : decode cX8_chain 130 = .ok (.istore 5, 2) := by decide +kernel
theorem dX8_chain_132 : decode cX8_chain 132 = .ok (.iload 5, 2) := by decide +kernel
theorem dX8_chain_134 : decode cX8_chain 134 = .ok (.aload_n 0, 1) := by decide +kernel
theorem dX8_chain_135 : decode cX8_chain 135 = .ok (.getfield 106, 3) := by decide +kernel
theorem dX8_chain_138 : decode cX8_chain 138 = .ok (.if_icmp .ge 107, 3) := by decide +kernel
theorem dX8_chain_141 : decode cX8_chain 141 = .ok (.aload_n 0, 1) := by decide +kernel
theorem dX8_chain_142 : decode cX8_chain 142 = .ok (.getfield 59, 3) := by decide +kernel
theorem dX8_chain_145 : decode cX8_chain 145 = .ok (.iload 4, 2) := by decide +kernel
theorem dX8_chain_147 : decode cX8_chain 147 = .ok (.iaload, 1) := by decide +kernel
theorem dX8_chain_148 : decode cX8_chain 148 = .ok (.iload_n 3, 1) := by decide +kernel
theorem dX8_chain_149 : decode cX8_chain 149 = .ok (.if_icmp .ne 96, 3) := by decide +kernel
theorem dX8_chain_152 : decode cX8_chain 152 = .ok (.aload_n 0, 1) := by decide +kernel
theorem dX8_chain_153 : decode cX8_chain 153 = .ok (.getfield 59, 3) := by decide +kernel
theorem dX8_chain_156 : decode cX8_chain 156 = .ok (.iload 5, 2) := by decide +kernel
theorem dX8_chain_158 : decode cX8_chain 158 = .ok (.iaload, 1) := by decide +kernel
theorem dX8_chain_159 : decode cX8_chain 159 = .ok (.ifCond .ge 52, 3) := by decide +kernel
theorem dX8_chain_162 : decode cX8_chain 162 = .ok (.aload_n 0, 1) := by decide +kernel
theorem dX8_chain_163 : decode cX8_chain 163 = .ok (.getfield 25, 3) := by decide +kernel
theorem dX8_chain_166 : decode cX8_chain 166 = .ok (.iload 5, 2) := by decide +kernel
theorem dX8_chain_168 : decode cX8_chain 168 = .ok (.iaload, 1) := by decide +kernel
theorem dX8_chain_169 : decode cX8_chain 169 = .ok (.iload_n 1, 1) := by decide +kernel
theorem dX8_chain_170 : decode cX8_chain 170 = .ok (.if_icmp .eq 41, 3) := by decide +kernel
theorem dX8_chain_173 : decode cX8_chain 173 = .ok (.aload_n 0, 1) := by decide +kernel
theorem dX8_chain_174 : decode cX8_chain 174 = .ok (.getfield 25, 3) := by decide +kernel
theorem dX8_chain_177 : decode cX8_chain 177 = .ok (.iload 5, 2) := by decide +kernel
theorem dX8_chain_179 : decode cX8_chain 179 = .ok (.iaload, 1) := by decide +kernel
theorem dX8_chain_180 : decode cX8_chain 180 = .ok (.aload_n 0, 1) := by decide +kernel
theorem dX8_chain_181 : decode cX8_chain 181 = .ok (.iload 4, 2) := by decide +kernel
theorem dX8_chain_183 : decode cX8_chain 183 = .ok (.invokevirtual 288, 3) := by decide +kernel
theorem dX8_chain_186 : decode cX8_chain 186 = .ok (.if_icmp .eq 25, 3) := by decide +kernel
theorem dX8_chain_189 : decode cX8_chain 189 = .ok (.aload_n 0, 1) := by decide +kernel
theorem dX8_chain_190 : decode cX8_chain 190 = .ok (.aload_n 0, 1) := by decide +kernel
theorem dX8_chain_191 : decode cX8_chain 191 = .ok (.getfield 25, 3) := by decide +kernel
theorem dX8_chain_194 : decode cX8_chain 194 = .ok (.iload 5, 2) := by decide +kernel
theorem dX8_chain_196 : decode cX8_chain 196 = .ok (.iaload, 1) := by decide +kernel
theorem dX8_chain_197 : decode cX8_chain 197 = .ok (.iload 4, 2) := by decide +kernel
theorem dX8_chain_199 : decode cX8_chain 199 = .ok (.iload 5, 2) := by decide +kernel
theorem dX8_chain_201 : decode cX8_chain 201 = .ok (.invokevirtual 291, 3) := by decide +kernel
theorem dX8_chain_204 : decode cX8_chain 204 = .ok (.ifCond .le 7, 3) := by decide +kernel
theorem dX8_chain_207 : decode cX8_chain 207 = .ok (.iconst 1, 1) := by decide +kernel
theorem dX8_chain_208 : decode cX8_chain 208 = .ok (.goto 4, 3) := by decide +kernel
theorem dX8_chain_211 : decode cX8_chain 211 = .ok (.iconst 0, 1) := by decide +kernel
theorem dX8_chain_212 : decode cX8_chain 212 = .ok (.istore 6, 2) := by decide +kernel
theorem dX8_chain_214 : decode cX8_chain 214 = .ok (.aload_n 0, 1) := by decide +kernel
theorem dX8_chain_215 : decode cX8_chain 215 = .ok (.getfield 59, 3) := by decide +kernel
theorem dX8_chain_218 : decode cX8_chain 218 = .ok (.iload 5, 2) := by decide +kernel
theorem dX8_chain_220 : decode cX8_chain 220 = .ok (.iload 6, 2) := by decide +kernel
theorem dX8_chain_222 : decode cX8_chain 222 = .ok (.ifCond .eq 9, 3) := by decide +kernel
theorem dX8_chain_225 : decode cX8_chain 225 = .ok (.iload_n 3, 1) := by decide +kernel
theorem dX8_chain_226 : decode cX8_chain 226 = .ok (.iconst 1, 1) := by decide +kernel
theorem dX8_chain_227 : decode cX8_chain 227 = .ok (.iadd, 1) := by decide +kernel
theorem dX8_chain_228 : decode cX8_chain 228 = .ok (.goto 10, 3) := by decide +kernel
theorem dX8_chain_231 : decode cX8_chain 231 = .ok (.aload_n 0, 1) := by decide +kernel
theorem dX8_chain_232 : decode cX8_chain 232 = .ok (.getfield 59, 3) := by decide +kernel
theorem dX8_chain_235 : decode cX8_chain 235 = .ok (.iload 5, 2) := by decide +kernel
theorem dX8_chain_237 : decode cX8_chain 237 = .ok (.iaload, 1) := by decide +kernel
theorem dX8_chain_238 : decode cX8_chain 238 = .ok (.iastore, 1) := by decide +kernel
theorem dX8_chain_239 : decode cX8_chain 239 = .ok (.iinc 5 1, 3) := by decide +kernel
theorem dX8_chain_242 : decode cX8_chain 242 = .ok (.goto (-110), 3) := by decide +kernel
theorem dX8_chain_245 : decode cX8_chain 245 = .ok (.iinc 4 1, 3) := by decide +kernel
theorem dX8_chain_248 : decode cX8_chain 248 = .ok (.goto (-128), 3) := by decide +kernel
theorem dX8_chain_251 : decode cX8_chain 251 = .ok (.iinc 3 1, 3) := by decide +kernel
theorem dX8_chain_254 : decode cX8_chain 254 = .ok (.goto (-197), 3) := by decide +kernel
theorem dX8_chain_257 : decode cX8_chain 257 = .ok (.iconst (-1), 1) := by decide +kernel
theorem dX8_chain_258 : decode cX8_chain 258 = .ok (.ireturn, 1) := by decide +kernel
theorem dX8_areRings_0 : decode cX8_areRings 0 = .ok (.iload_n 1, 1) := by decide +kernel
theorem dX8_areRings_1 : decode cX8_areRings 1 = .ok (.istore_n 2, 1) := by decide +kernel
theorem dX8_areRings_2 : decode cX8_areRings 2 = .ok (.iconst 0, 1) := by decide +kernel
theorem dX8_areRings_3 : decode cX8_areRings 3 = .ok (.istore_n 3, 1) := by decide +kernel
theorem dX8_areRings_4 : decode cX8_areRings 4 = .ok (.iconst 0, 1) := by decide +kernel
theorem dX8_areRings_5 : decode cX8_areRings 5 = .ok (.istore 4, 2) := by decide +kernel
theorem dX8_areRings_7 : decode cX8_areRings 7 = .ok (.iconst 1, 1) := by decide +kernel
theorem dX8_areRings_8 : decode cX8_areRings 8 = .ok (.istore 5, 2) := by decide +kernel
theorem dX8_areRings_10 : decode cX8_areRings 10 = .ok (.aload_n 0, 1) := by decide +kernel
theorem dX8_areRings_11 : decode cX8_areRings 11 = .ok (.getfield 99, 3) := by decide +kernel
theorem dX8_areRings_14 : decode cX8_areRings 14 = .ok (.iconst 1, 1) := by decide +kernel
theorem dX8_areRings_15 : decode cX8_areRings 15 = .ok (.isub, 1) := by decide +kernel
theorem dX8_areRings_16 : decode cX8_areRings 16 = .ok (.istore 6, 2) := by decide +kernel
theorem dX8_areRings_18 : decode cX8_areRings 18 = .ok (.iload 6, 2) := by decide +kernel
theorem dX8_areRings_20 : decode cX8_areRings 20 = .ok (.ifCond .lt 132, 3) := by decide +kernel
theorem dX8_areRings_23 : decode cX8_areRings 23 = .ok (.aload_n 0, 1) := by decide +kernel
theorem dX8_areRings_24 : decode cX8_areRings 24 = .ok (.getfield 62, 3) := by decide +kernel
theorem dX8_areRings_27 : decode cX8_areRings 27 = .ok (.iload 6, 2) := by decide +kernel
theorem dX8_areRings_29 : decode cX8_areRings 29 = .ok (.iload_n 2, 1) := by decide +kernel
theorem dX8_areRings_30 : decode cX8_areRings 30 = .ok (.aload_n 0, 1) := by decide +kernel
theorem dX8_areRings_31 : decode cX8_areRings 31 = .ok (.getfield 99, 3) := by decide +kernel
theorem dX8_areRings_34 : decode cX8_areRings 34 = .ok (.iconst 1, 1) := by decide +kernel
theorem dX8_areRings_35 : decode cX8_areRings 35 = .ok (.iadd, 1) := by decide +kernel
theorem dX8_areRings_36 : decode cX8_areRings 36 = .ok (.irem, 1) := by decide +kernel
theorem dX8_areRings_37 : decode cX8_areRings 37 = .ok (.iconst 1, 1) := by decide +kernel
theorem dX8_areRings_38 : decode cX8_areRings 38 = .ok (.isub, 1) := by decide +kernel
theorem dX8_areRings_39 : decode cX8_areRings 39 = .ok (.iastore, 1) := by decide +kernel
theorem dX8_areRings_40 : decode cX8_areRings 40 = .ok (.iload_n 2, 1) := by decide +kernel
theorem dX8_areRings_41 : decode cX8_areRings 41 = .ok (.aload_n 0, 1) := by decide +kernel
theorem dX8_areRings_42 : decode cX8_areRings 42 = .ok (.getfield 99, 3) := by decide +kernel
theorem dX8_areRings_45 : decode cX8_areRings 45 = .ok (.iconst 1, 1) := by decide +kernel
theorem dX8_areRings_46 : decode cX8_areRings 46 = .ok (.iadd, 1) := by decide +kernel
theorem dX8_areRings_47 : decode cX8_areRings 47 = .ok (.idiv, 1) := by decide +kernel
theorem dX8_areRings_48 : decode cX8_areRings 48 = .ok (.istore_n 2, 1) := by decide +kernel
theorem dX8_areRings_49 : decode cX8_areRings 49 = .ok (.iload 5, 2) := by decide +kernel
theorem dX8_areRings_51 : decode cX8_areRings 51 = .ok (.ifCond .eq 43, 3) := by decide +kernel
theorem dX8_areRings_54 : decode cX8_areRings 54 = .ok (.aload_n 0, 1) := by decide +kernel
theorem dX8_areRings_55 : decode cX8_areRings 55 = .ok (.getfield 62, 3) := by decide +kernel
theorem dX8_areRings_58 : decode cX8_areRings 58 = .ok (.iload 6, 2) := by decide +kernel
theorem dX8_areRings_60 : decode cX8_areRings 60 = .ok (.iaload, 1) := by decide +kernel
theorem dX8_areRings_61 : decode cX8_areRings 61 = .ok (.iload 6, 2) := by decide +kernel
theorem dX8_areRings_63 : decode cX8_areRings 63 = .ok (.if_icmp .eq 31, 3) := by decide +kernel
theorem dX8_areRings_66 : decode cX8_areRings 66 = .ok (.aload_n 0, 1) := by decide +kernel
theorem dX8_areRings_67 : decode cX8_areRings 67 = .ok (.getfield 62, 3) := by decide +kernel
theorem dX8_areRings_70 : decode cX8_areRings 70 = .ok (.iload 6, 2) := by decide +kernel
theorem dX8_areRings_72 : decode cX8_areRings 72 = .ok (.iaload, 1) := by decide +kernel
theorem dX8_areRings_73 : decode cX8_areRings 73 = .ok (.ifCond .lt 17, 3) := by decide +kernel
theorem dX8_areRings_76 : decode cX8_areRings 76 = .ok (.iload_n 3, 1) := by decide +kernel
theorem dX8_areRings_77 : decode cX8_areRings 77 = .ok (.aload_n 0, 1) := by decide +kernel
theorem dX8_areRings_78 : decode cX8_areRings 78 = .ok (.getfield 62, 3) := by decide +kernel
theorem dX8_areRings_81 : decode cX8_areRings 81 = .ok (.iload 6, 2) := by decide +kernel
theorem dX8_areRings_83 : decode cX8_areRings 83 = .ok (.iaload, 1) := by decide +kernel
theorem dX8_areRings_84 : decode cX8_areRings 84 = .ok (.invokestatic 201, 3) := by decide +kernel
theorem dX8_areRings_87 : decode cX8_areRings 87 = .ok (.ifCond .ne 7, 3) := by decide +kernel
theorem dX8_areRings_90 : decode cX8_areRings 90 = .ok (.iconst 1, 1) := by decide +kernel
theorem dX8_areRings_91 : decode cX8_areRings 91 = .ok (.goto 4, 3) := by decide +kernel
theorem dX8_areRings_94 : decode cX8_areRings 94 = .ok (.iconst 0, 1) := by decide +kernel
theorem dX8_areRings_95 : decode cX8_areRings 95 = .ok (.istore 5, 2) := by decide +kernel
theorem dX8_areRings_97 : decode cX8_areRings 97 = .ok (.iload_n 3, 1) := by decide +kernel
theorem dX8_areRings_98 : decode cX8_areRings 98 = .ok (.aload_n 0, 1) := by decide +kernel
theorem dX8_areRings_99 : decode cX8_areRings 99 = .ok (.getfield 62, 3) := by decide +kernel
theorem dX8_areRings_102 : decode cX8_areRings 102 = .ok (.iload 6, 2) := by decide +kernel
theorem dX8_areRings_104 : decode cX8_areRings 104 = .ok (.iaload, 1) := by decide +kernel
theorem dX8_areRings_105 : decode cX8_areRings 105 = .ok (.ifCond .ge 7, 3) := by decide +kernel
theorem dX8_areRings_108 : decode cX8_areRings 108 = .ok (.iconst 0, 1) := by decide +kernel
theorem dX8_areRings_109 : decode cX8_areRings 109 = .ok (.goto 12, 3) := by decide +kernel
theorem dX8_areRings_112 : decode cX8_areRings 112 = .ok (.iconst 1, 1) := by decide +kernel
theorem dX8_areRings_113 : decode cX8_areRings 113 = .ok (.aload_n 0, 1) := by decide +kernel
theorem dX8_areRings_114 : decode cX8_areRings 114 = .ok (.getfield 62, 3) := by decide +kernel
theorem dX8_areRings_117 : decode cX8_areRings 117 = .ok (.iload 6, 2) := by decide +kernel
theorem dX8_areRings_119 : decode cX8_areRings 119 = .ok (.iaload, 1) := by decide +kernel
theorem dX8_areRings_120 : decode cX8_areRings 120 = .ok (.ishl, 1) := by decide +kernel
theorem dX8_areRings_121 : decode cX8_areRings 121 = .ok (.ior, 1) := by decide +kernel
theorem dX8_areRings_122 : decode cX8_areRings 122 = .ok (.istore_n 3, 1) := by decide +kernel
theorem dX8_areRings_123 : decode cX8_areRings 123 = .ok (.iload 4, 2) := by decide +kernel
theorem dX8_areRings_125 : decode cX8_areRings 125 = .ok (.aload_n 0, 1) := by decide +kernel
theorem dX8_areRings_126 : decode cX8_areRings 126 = .ok (.getfield 62, 3) := by decide +kernel
theorem dX8_areRings_129 : decode cX8_areRings 129 = .ok (.iload 6, 2) := by decide +kernel
theorem dX8_areRings_131 : decode cX8_areRings 131 = .ok (.iaload, 1) := by decide +kernel
theorem dX8_areRings_132 : decode cX8_areRings 132 = .ok (.ifCond .ge 7, 3) := by decide +kernel
theorem dX8_areRings_135 : decode cX8_areRings 135 = .ok (.iconst 0, 1) := by decide +kernel
theorem dX8_areRings_136 : decode cX8_areRings 136 = .ok (.goto 7, 3) := by decide +kernel
theorem dX8_areRings_139 : decode cX8_areRings 139 = .ok (.iconst 1, 1) := by decide +kernel
theorem dX8_areRings_140 : decode cX8_areRings 140 = .ok (.iload 6, 2) := by decide +kernel
theorem dX8_areRings_142 : decode cX8_areRings 142 = .ok (.ishl, 1) := by decide +kernel
theorem dX8_areRings_143 : decode cX8_areRings 143 = .ok (.ior, 1) := by decide +kernel
theorem dX8_areRings_144 : decode cX8_areRings 144 = .ok (.istore 4, 2) := by decide +kernel
theorem dX8_areRings_146 : decode cX8_areRings 146 = .ok (.iinc 6 (-1), 3) := by decide +kernel
theorem dX8_areRings_149 : decode cX8_areRings 149 = .ok (.goto (-131), 3) := by decide +kernel
theorem dX8_areRings_152 : decode cX8_areRings 152 = .ok (.iload 5, 2) := by decide +kernel
theorem dX8_areRings_154 : decode cX8_areRings 154 = .ok (.ifCond .eq 13, 3) := by decide +kernel
theorem dX8_areRings_157 : decode cX8_areRings 157 = .ok (.iload_n 3, 1) := by decide +kernel
theorem dX8_areRings_158 : decode cX8_areRings 158 = .ok (.iload 4, 2) := by decide +kernel
theorem dX8_areRings_160 : decode cX8_areRings 160 = .ok (.if_icmp .ne 7, 3) := by decide +kernel
theorem dX8_areRings_163 : decode cX8_areRings 163 = .ok (.iconst 1, 1) := by decide +kernel
theorem dX8_areRings_164 : decode cX8_areRings 164 = .ok (.goto 4, 3) := by decide +kernel
theorem dX8_areRings_167 : decode cX8_areRings 167 = .ok (.iconst 0, 1) := by decide +kernel
theorem dX8_areRings_168 : decode cX8_areRings 168 = .ok (.ireturn, 1) := by decide +kernel
theorem dX8_partOf_0 : decode cX8_partOf 0 = .ok (.iconst 0, 1) := by decide +kernel
theorem dX8_partOf_1 : decode cX8_partOf 1 = .ok (.istore_n 3, 1) := by decide +kernel
theorem dX8_partOf_2 : decode cX8_partOf 2 = .ok (.iconst 0, 1) := by decide +kernel
theorem dX8_partOf_3 : decode cX8_partOf 3 = .ok (.istore 4, 2) := by decide +kernel
theorem dX8_partOf_5 : decode cX8_partOf 5 = .ok (.iload 4, 2) := by decide +kernel
theorem dX8_partOf_7 : decode cX8_partOf 7 = .ok (.aload_n 0, 1) := by decide +kernel
theorem dX8_partOf_8 : decode cX8_partOf 8 = .ok (.getfield 106, 3) := by decide +kernel
theorem dX8_partOf_11 : decode cX8_partOf 11 = .ok (.if_icmp .ge 31, 3) := by decide +kernel
theorem dX8_partOf_14 : decode cX8_partOf 14 = .ok (.aload_n 0, 1) := by decide +kernel
theorem dX8_partOf_15 : decode cX8_partOf 15 = .ok (.getfield 25, 3) := by decide +kernel
theorem dX8_partOf_18 : decode cX8_partOf 18 = .ok (.iload 4, 2) := by decide +kernel
theorem dX8_partOf_20 : decode cX8_partOf 20 = .ok (.iaload, 1) := by decide +kernel
theorem dX8_partOf_21 : decode cX8_partOf 21 = .ok (.iload_n 1, 1) := by decide +kernel
theorem dX8_partOf_22 : decode cX8_partOf 22 = .ok (.if_icmp .ne 14, 3) := by decide +kernel
theorem dX8_partOf_25 : decode cX8_partOf 25 = .ok (.iload_n 3, 1) := by decide +kernel
theorem dX8_partOf_26 : decode cX8_partOf 26 = .ok (.iload_n 2, 1) := by decide +kernel
theorem dX8_partOf_27 : decode cX8_partOf 27 = .ok (.if_icmp .ne 6, 3) := by decide +kernel
theorem dX8_partOf_30 : decode cX8_partOf 30 = .ok (.iload 4, 2) := by decide +kernel
theorem dX8_partOf_32 : decode cX8_partOf 32 = .ok (.ireturn, 1) := by decide +kernel
theorem dX8_partOf_33 : decode cX8_partOf 33 = .ok (.iinc 3 1, 3) := by decide +kernel
theorem dX8_partOf_36 : decode cX8_partOf 36 = .ok (.iinc 4 1, 3) := by decide +kernel
theorem dX8_partOf_39 : decode cX8_partOf 39 = .ok (.goto (-34), 3) := by decide +kernel
theorem dX8_partOf_42 : decode cX8_partOf 42 = .ok (.iconst (-1), 1) := by decide +kernel
theorem dX8_partOf_43 : decode cX8_partOf 43 = .ok (.ireturn, 1) := by decide +kernel
theorem dX8_areThrown_0 : decode cX8_areThrown 0 = .ok (.iload_n 1, 1) := by decide +kernel
theorem dX8_areThrown_1 : decode cX8_areThrown 1 = .ok (.istore_n 2, 1) := by decide +kernel
theorem dX8_areThrown_2 : decode cX8_areThrown 2 = .ok (.iconst 1, 1) := by decide +kernel
theorem dX8_areThrown_3 : decode cX8_areThrown 3 = .ok (.istore_n 3, 1) := by decide +kernel
theorem dX8_areThrown_4 : decode cX8_areThrown 4 = .ok (.aload_n 0, 1) := by decide +kernel
theorem dX8_areThrown_5 : decode cX8_areThrown 5 = .ok (.getfield 99, 3) := by decide +kernel
theorem dX8_areThrown_8 : decode cX8_areThrown 8 = .ok (.iconst 1, 1) := by decide +kernel
theorem dX8_areThrown_9 : decode cX8_areThrown 9 = .ok (.isub, 1) := by decide +kernel
theorem dX8_areThrown_10 : decode cX8_areThrown 10 = .ok (.istore 4, 2) := by decide +kernel
theorem dX8_areThrown_12 : decode cX8_areThrown 12 = .ok (.iload 4, 2) := by decide +kernel
theorem dX8_areThrown_14 : decode cX8_areThrown 14 = .ok (.ifCond .lt 67, 3) := by decide +kernel
theorem dX8_areThrown_17 : decode cX8_areThrown 17 = .ok (.aload_n 0, 1) := by decide +kernel
theorem dX8_areThrown_18 : decode cX8_areThrown 18 = .ok (.getfield 65, 3) := by decide +kernel
theorem dX8_areThrown_21 : decode cX8_areThrown 21 = .ok (.iload 4, 2) := by decide +kernel
theorem dX8_areThrown_23 : decode cX8_areThrown 23 = .ok (.iconst (-1), 1) := by decide +kernel
theorem dX8_areThrown_24 : decode cX8_areThrown 24 = .ok (.iastore, 1) := by decide +kernel
theorem dX8_areThrown_25 : decode cX8_areThrown 25 = .ok (.aload_n 0, 1) := by decide +kernel
theorem dX8_areThrown_26 : decode cX8_areThrown 26 = .ok (.getfield 62, 3) := by decide +kernel
theorem dX8_areThrown_29 : decode cX8_areThrown 29 = .ok (.iload 4, 2) := by decide +kernel
theorem dX8_areThrown_31 : decode cX8_areThrown 31 = .ok (.iaload, 1) := by decide +kernel
theorem dX8_areThrown_32 : decode cX8_areThrown 32 = .ok (.ifCond .lt 43, 3) := by decide +kernel
theorem dX8_areThrown_35 : decode cX8_areThrown 35 = .ok (.aload_n 0, 1) := by decide +kernel
theorem dX8_areThrown_36 : decode cX8_areThrown 36 = .ok (.getfield 65, 3) := by decide +kernel
theorem dX8_areThrown_39 : decode cX8_areThrown 39 = .ok (.iload 4, 2) := by decide +kernel
theorem dX8_areThrown_41 : decode cX8_areThrown 41 = .ok (.aload_n 0, 1) := by decide +kernel
theorem dX8_areThrown_42 : decode cX8_areThrown 42 = .ok (.iload 4, 2) := by decide +kernel
theorem dX8_areThrown_44 : decode cX8_areThrown 44 = .ok (.iload_n 2, 1) := by decide +kernel
theorem dX8_areThrown_45 : decode cX8_areThrown 45 = .ok (.iconst 4, 1) := by decide +kernel
theorem dX8_areThrown_46 : decode cX8_areThrown 46 = .ok (.irem, 1) := by decide +kernel
theorem dX8_areThrown_47 : decode cX8_areThrown 47 = .ok (.invokevirtual 295, 3) := by decide +kernel
theorem dX8_areThrown_50 : decode cX8_areThrown 50 = .ok (.iastore, 1) := by decide +kernel
theorem dX8_areThrown_51 : decode cX8_areThrown 51 = .ok (.iload_n 2, 1) := by decide +kernel
theorem dX8_areThrown_52 : decode cX8_areThrown 52 = .ok (.iconst 4, 1) := by decide +kernel
theorem dX8_areThrown_53 : decode cX8_areThrown 53 = .ok (.idiv, 1) := by decide +kernel
theorem dX8_areThrown_54 : decode cX8_areThrown 54 = .ok (.istore_n 2, 1) := by decide +kernel
theorem dX8_areThrown_55 : decode cX8_areThrown 55 = .ok (.iload_n 3, 1) := by decide +kernel
theorem dX8_areThrown_56 : decode cX8_areThrown 56 = .ok (.ifCond .eq 17, 3) := by decide +kernel
theorem dX8_areThrown_59 : decode cX8_areThrown 59 = .ok (.aload_n 0, 1) := by decide +kernel
theorem dX8_areThrown_60 : decode cX8_areThrown 60 = .ok (.getfield 65, 3) := by decide +kernel
theorem dX8_areThrown_63 : decode cX8_areThrown 63 = .ok (.iload 4, 2) := by decide +kernel
theorem dX8_areThrown_65 : decode cX8_areThrown 65 = .ok (.iaload, 1) := by decide +kernel
theorem dX8_areThrown_66 : decode cX8_areThrown 66 = .ok (.ifCond .lt 7, 3) := by decide +kernel
theorem dX8_areThrown_69 : decode cX8_areThrown 69 = .ok (.iconst 1, 1) := by decide +kernel
theorem dX8_areThrown_70 : decode cX8_areThrown 70 = .ok (.goto 4, 3) := by decide +kernel
theorem dX8_areThrown_73 : decode cX8_areThrown 73 = .ok (.iconst 0, 1) := by decide +kernel
theorem dX8_areThrown_74 : decode cX8_areThrown 74 = .ok (.istore_n 3, 1) := by decide +kernel
theorem dX8_areThrown_75 : decode cX8_areThrown 75 = .ok (.iinc 4 (-1), 3) := by decide +kernel
theorem dX8_areThrown_78 : decode cX8_areThrown 78 = .ok (.goto (-66), 3) := by decide +kernel
theorem dX8_areThrown_81 : decode cX8_areThrown 81 = .ok (.iload_n 3, 1) := by decide +kernel
theorem dX8_areThrown_82 : decode cX8_areThrown 82 = .ok (.ireturn, 1) := by decide +kernel
theorem dX8_ringsSum_0 : decode cX8_ringsSum 0 = .ok (.iconst 0, 1) := by decide +kernel
theorem dX8_ringsSum_1 : decode cX8_ringsSum 1 = .ok (.istore_n 1, 1) := by decide +kernel
theorem dX8_ringsSum_2 : decode cX8_ringsSum 2 = .ok (.iconst 0, 1) := by decide +kernel
theorem dX8_ringsSum_3 : decode cX8_ringsSum 3 = .ok (.istore_n 2, 1) := by decide +kernel
theorem dX8_ringsSum_4 : decode cX8_ringsSum 4 = .ok (.iload_n 2, 1) := by decide +kernel
theorem dX8_ringsSum_5 : decode cX8_ringsSum 5 = .ok (.aload_n 0, 1) := by decide +kernel
theorem dX8_ringsSum_6 : decode cX8_ringsSum 6 = .ok (.getfield 99, 3) := by decide +kernel
theorem dX8_ringsSum_9 : decode cX8_ringsSum 9 = .ok (.if_icmp .ge 51, 3) := by decide +kernel
theorem dX8_ringsSum_12 : decode cX8_ringsSum 12 = .ok (.aload_n 0, 1) := by decide +kernel
theorem dX8_ringsSum_13 : decode cX8_ringsSum 13 = .ok (.getfield 62, 3) := by decide +kernel
theorem dX8_ringsSum_16 : decode cX8_ringsSum 16 = .ok (.iload_n 2, 1) := by decide +kernel
theorem dX8_ringsSum_17 : decode cX8_ringsSum 17 = .ok (.iaload, 1) := by decide +kernel
theorem dX8_ringsSum_18 : decode cX8_ringsSum 18 = .ok (.ifCond .lt 36, 3) := by decide +kernel
theorem dX8_ringsSum_21 : decode cX8_ringsSum 21 = .ok (.aload_n 0, 1) := by decide +kernel
theorem dX8_ringsSum_22 : decode cX8_ringsSum 22 = .ok (.iload_n 2, 1) := by decide +kernel
theorem dX8_ringsSum_23 : decode cX8_ringsSum 23 = .ok (.aload_n 0, 1) := by decide +kernel
theorem dX8_ringsSum_24 : decode cX8_ringsSum 24 = .ok (.getfield 65, 3) := by decide +kernel
theorem dX8_ringsSum_27 : decode cX8_ringsSum 27 = .ok (.aload_n 0, 1) := by decide +kernel
theorem dX8_ringsSum_28 : decode cX8_ringsSum 28 = .ok (.getfield 62, 3) := by decide +kernel
theorem dX8_ringsSum_31 : decode cX8_ringsSum 31 = .ok (.iload_n 2, 1) := by decide +kernel
theorem dX8_ringsSum_32 : decode cX8_ringsSum 32 = .ok (.iaload, 1) := by decide +kernel
theorem dX8_ringsSum_33 : decode cX8_ringsSum 33 = .ok (.iaload, 1) := by decide +kernel
theorem dX8_ringsSum_34 : decode cX8_ringsSum 34 = .ok (.aload_n 0, 1) := by decide +kernel
theorem dX8_ringsSum_35 : decode cX8_ringsSum 35 = .ok (.getfield 65, 3) := by decide +kernel
theorem dX8_ringsSum_38 : decode cX8_ringsSum 38 = .ok (.iload_n 2, 1) := by decide +kernel
theorem dX8_ringsSum_39 : decode cX8_ringsSum 39 = .ok (.iaload, 1) := by decide +kernel
theorem dX8_ringsSum_40 : decode cX8_ringsSum 40 = .ok (.invokevirtual 291, 3) := by decide +kernel
theorem dX8_ringsSum_43 : decode cX8_ringsSum 43 = .ok (.istore_n 3, 1) := by decide +kernel
theorem dX8_ringsSum_44 : decode cX8_ringsSum 44 = .ok (.iload_n 3, 1) := by decide +kernel
theorem dX8_ringsSum_45 : decode cX8_ringsSum 45 = .ok (.ifCond .gt 5, 3) := by decide +kernel
theorem dX8_ringsSum_48 : decode cX8_ringsSum 48 = .ok (.iconst 0, 1) := by decide +kernel
theorem dX8_ringsSum_49 : decode cX8_ringsSum 49 = .ok (.ireturn, 1) := by decide +kernel
theorem dX8_ringsSum_50 : decode cX8_ringsSum 50 = .ok (.iload_n 1, 1) := by decide +kernel
theorem dX8_ringsSum_51 : decode cX8_ringsSum 51 = .ok (.iload_n 3, 1) := by decide +kernel
theorem dX8_ringsSum_52 : decode cX8_ringsSum 52 = .ok (.iadd, 1) := by decide +kernel
theorem dX8_ringsSum_53 : decode cX8_ringsSum 53 = .ok (.istore_n 1, 1) := by decide +kernel
theorem dX8_ringsSum_54 : decode cX8_ringsSum 54 = .ok (.iinc 2 1, 3) := by decide +kernel
theorem dX8_ringsSum_57 : decode cX8_ringsSum 57 = .ok (.goto (-53), 3) := by decide +kernel
theorem dX8_ringsSum_60 : decode cX8_ringsSum 60 = .ok (.iload_n 1, 1) := by decide +kernel
theorem dX8_ringsSum_61 : decode cX8_ringsSum 61 = .ok (.ireturn, 1) := by decide +kernel
theorem dX8_findRings_0 : decode cX8_findRings 0 = .ok (.iconst 0, 1) := by decide +kernel
theorem dX8_findRings_1 : decode cX8_findRings 1 = .ok (.istore_n 1, 1) := by decide +kernel
theorem dX8_findRings_2 : decode cX8_findRings 2 = .ok (.iconst 0, 1) := by decide +kernel
theorem dX8_findRings_3 : decode cX8_findRings 3 = .ok (.istore_n 2, 1) := by decide +kernel
theorem dX8_findRings_4 : decode cX8_findRings 4 = .ok (.iload_n 2, 1) := by decide +kernel
theorem dX8_findRings_5 : decode cX8_findRings 5 = .ok (.iconst 5, 1) := by decide +kernel
theorem dX8_findRings_6 : decode cX8_findRings 6 = .ok (.if_icmp .ge 23, 3) := by decide +kernel
theorem dX8_findRings_9 : decode cX8_findRings 9 = .ok (.aload_n 0, 1) := by decide +kernel
theorem dX8_findRings_10 : decode cX8_findRings 10 = .ok (.getfield 68, 3) := by decide +kernel
theorem dX8_findRings_13 : decode cX8_findRings 13 = .ok (.iload_n 2, 1) := by decide +kernel
theorem dX8_findRings_14 : decode cX8_findRings 14 = .ok (.iconst (-1), 1) := by decide +kernel
theorem dX8_findRings_15 : decode cX8_findRings 15 = .ok (.iastore, 1) := by decide +kernel
theorem dX8_findRings_16 : decode cX8_findRings 16 = .ok (.aload_n 0, 1) := by decide +kernel
theorem dX8_findRings_17 : decode cX8_findRings 17 = .ok (.getfield 71, 3) := by decide +kernel
theorem dX8_findRings_20 : decode cX8_findRings 20 = .ok (.iload_n 2, 1) := by decide +kernel
theorem dX8_findRings_21 : decode cX8_findRings 21 = .ok (.iconst (-1), 1) := by decide +kernel
theorem dX8_findRings_22 : decode cX8_findRings 22 = .ok (.iastore, 1) := by decide +kernel
theorem dX8_findRings_23 : decode cX8_findRings 23 = .ok (.iinc 2 1, 3) := by decide +kernel
theorem dX8_findRings_26 : decode cX8_findRings 26 = .ok (.goto (-22), 3) := by decide +kernel
theorem dX8_findRings_29 : decode cX8_findRings 29 = .ok (.iconst 1, 1) := by decide +kernel
theorem dX8_findRings_30 : decode cX8_findRings 30 = .ok (.istore_n 2, 1) := by decide +kernel
theorem dX8_findRings_31 : decode cX8_findRings 31 = .ok (.iconst 0, 1) := by decide +kernel
theorem dX8_findRings_32 : decode cX8_findRings 32 = .ok (.istore_n 3, 1) := by decide +kernel
theorem dX8_findRings_33 : decode cX8_findRings 33 = .ok (.iload_n 3, 1) := by decide +kernel
theorem dX8_findRings_34 : decode cX8_findRings 34 = .ok (.aload_n 0, 1) := by decide +kernel
theorem dX8_findRings_35 : decode cX8_findRings 35 = .ok (.getfield 99, 3) := by decide +kernel
theorem dX8_findRings_38 : decode cX8_findRings 38 = .ok (.if_icmp .ge 18, 3) := by decide +kernel
theorem dX8_findRings_41 : decode cX8_findRings 41 = .ok (.iload_n 2, 1) := by decide +kernel
theorem dX8_findRings_42 : decode cX8_findRings 42 = .ok (.aload_n 0, 1) := by decide +kernel
theorem dX8_findRings_43 : decode cX8_findRings 43 = .ok (.getfield 99, 3) := by decide +kernel
theorem dX8_findRings_46 : decode cX8_findRings 46 = .ok (.iconst 1, 1) := by decide +kernel
theorem dX8_findRings_47 : decode cX8_findRings 47 = .ok (.iadd, 1) := by decide +kernel
theorem dX8_findRings_48 : decode cX8_findRings 48 = .ok (.imul, 1) := by decide +kernel
theorem dX8_findRings_49 : decode cX8_findRings 49 = .ok (.istore_n 2, 1) := by decide +kernel
theorem dX8_findRings_50 : decode cX8_findRings 50 = .ok (.iinc 3 1, 3) := by decide +kernel
theorem dX8_findRings_53 : decode cX8_findRings 53 = .ok (.goto (-20), 3) := by decide +kernel
theorem dX8_findRings_56 : decode cX8_findRings 56 = .ok (.iconst 0, 1) := by decide +kernel
theorem dX8_findRings_57 : decode cX8_findRings 57 = .ok (.istore_n 3, 1) := by decide +kernel
theorem dX8_findRings_58 : decode cX8_findRings 58 = .ok (.iload_n 3, 1) := by decide +kernel
theorem dX8_findRings_59 : decode cX8_findRings 59 = .ok (.iload_n 2, 1) := by decide +kernel
theorem dX8_findRings_60 : decode cX8_findRings 60 = .ok (.if_icmp .ge 167, 3) := by decide +kernel
theorem dX8_findRings_63 : decode cX8_findRings 63 = .ok (.aload_n 0, 1) := by decide +kernel
theorem dX8_findRings_64 : decode cX8_findRings 64 = .ok (.iload_n 3, 1) := by decide +kernel
theorem dX8_findRings_65 : decode cX8_findRings 65 = .ok (.invokevirtual 298, 3) := by decide +kernel
theorem dX8_findRings_68 : decode cX8_findRings 68 = .ok (.ifCond .eq 153, 3) := by decide +kernel
theorem dX8_findRings_71 : decode cX8_findRings 71 = .ok (.iconst 1, 1) := by decide +kernel
theorem dX8_findRings_72 : decode cX8_findRings 72 = .ok (.istore 4, 2) := by decide +kernel
theorem dX8_findRings_74 : decode cX8_findRings 74 = .ok (.iconst 0, 1) := by decide +kernel
theorem dX8_findRings_75 : decode cX8_findRings 75 = .ok (.istore 5, 2) := by decide +kernel
theorem dX8_findRings_77 : decode cX8_findRings 77 = .ok (.iload 5, 2) := by decide +kernel
theorem dX8_findRings_79 : decode cX8_findRings 79 = .ok (.aload_n 0, 1) := by decide +kernel
theorem dX8_findRings_80 : decode cX8_findRings 80 = .ok (.getfield 99, 3) := by decide +kernel
theorem dX8_findRings_83 : decode cX8_findRings 83 = .ok (.if_icmp .ge 29, 3) := by decide +kernel
theorem dX8_findRings_86 : decode cX8_findRings 86 = .ok (.iload 4, 2) := by decide +kernel
theorem dX8_findRings_88 : decode cX8_findRings 88 = .ok (.aload_n 0, 1) := by decide +kernel
theorem dX8_findRings_89 : decode cX8_findRings 89 = .ok (.getfield 62, 3) := by decide +kernel
theorem dX8_findRings_92 : decode cX8_findRings 92 = .ok (.iload 5, 2) := by decide +kernel
theorem dX8_findRings_94 : decode cX8_findRings 94 = .ok (.iaload, 1) := by decide +kernel
theorem dX8_findRings_95 : decode cX8_findRings 95 = .ok (.ifCond .ge 7, 3) := by decide +kernel
theorem dX8_findRings_98 : decode cX8_findRings 98 = .ok (.iconst 1, 1) := by decide +kernel
theorem dX8_findRings_99 : decode cX8_findRings 99 = .ok (.goto 4, 3) := by decide +kernel
theorem dX8_findRings_102 : decode cX8_findRings 102 = .ok (.iconst 4, 1) := by decide +kernel
theorem dX8_findRings_103 : decode cX8_findRings 103 = .ok (.imul, 1) := by decide +kernel
theorem dX8_findRings_104 : decode cX8_findRings 104 = .ok (.istore 4, 2) := by decide +kernel
theorem dX8_findRings_106 : decode cX8_findRings 106 = .ok (.iinc 5 1, 3) := by decide +kernel
theorem dX8_findRings_109 : decode cX8_findRings 109 = .ok (.goto (-32), 3) := by decide +kernel
theorem dX8_findRings_112 : decode cX8_findRings 112 = .ok (.iconst 0, 1) := by decide +kernel
theorem dX8_findRings_113 : decode cX8_findRings 113 = .ok (.istore 5, 2) := by decide +kernel
theorem dX8_findRings_115 : decode cX8_findRings 115 = .ok (.iload 5, 2) := by decide +kernel
theorem dX8_findRings_117 : decode cX8_findRings 117 = .ok (.iload 4, 2) := by decide +kernel
theorem dX8_findRings_119 : decode cX8_findRings 119 = .ok (.if_icmp .ge 102, 3) := by decide +kernel
theorem dX8_findRings_122 : decode cX8_findRings 122 = .ok (.aload_n 0, 1) := by decide +kernel
theorem dX8_findRings_123 : decode cX8_findRings 123 = .ok (.iload 5, 2) := by decide +kernel
theorem dX8_findRings_125 : decode cX8_findRings 125 = .ok (.invokevirtual 301, 3) := by decide +kernel
theorem dX8_findRings_128 : decode cX8_findRings 128 = .ok (.ifCond .eq 10, 3) := by decide +kernel
theorem dX8_findRings_131 : decode cX8_findRings 131 = .ok (.aload_n 0, 1) := by decide +kernel
theorem dX8_findRings_132 : decode cX8_findRings 132 = .ok (.invokevirtual 304, 3) := by decide +kernel
theorem dX8_findRings_135 : decode cX8_findRings 135 = .ok (.goto 4, 3) := by decide +kernel
theorem dX8_findRings_138 : decode cX8_findRings 138 = .ok (.iconst 0, 1) := by decide +kernel
theorem dX8_findRings_139 : decode cX8_findRings 139 = .ok (.istore 6, 2) := by decide +kernel
theorem dX8_findRings_141 : decode cX8_findRings 141 = .ok (.iload 6, 2) := by decide +kernel
theorem dX8_findRings_143 : decode cX8_findRings 143 = .ok (.iload_n 1, 1) := by decide +kernel
theorem dX8_findRings_144 : decode cX8_findRings 144 = .ok (.if_icmp .le 71, 3) := by decide +kernel
theorem dX8_findRings_147 : decode cX8_findRings 147 = .ok (.iload 6, 2) := by decide +kernel
theorem dX8_findRings_149 : decode cX8_findRings 149 = .ok (.istore_n 1, 1) := by decide +kernel
theorem dX8_findRings_150 : decode cX8_findRings 150 = .ok (.iconst 0, 1) := by decide +kernel
theorem dX8_findRings_151 : decode cX8_findRings 151 = .ok (.istore 7, 2) := by decide +kernel
theorem dX8_findRings_153 : decode cX8_findRings 153 = .ok (.iload 7, 2) := by decide +kernel
theorem dX8_findRings_155 : decode cX8_findRings 155 = .ok (.aload_n 0, 1) := by decide +kernel
theorem dX8_findRings_156 : decode cX8_findRings 156 = .ok (.getfield 99, 3) := by decide +kernel
theorem dX8_findRings_159 : decode cX8_findRings 159 = .ok (.if_icmp .ge 56, 3) := by decide +kernel
theorem dX8_findRings_162 : decode cX8_findRings 162 = .ok (.aload_n 0, 1) := by decide +kernel
theorem dX8_findRings_163 : decode cX8_findRings 163 = .ok (.getfield 68, 3) := by decide +kernel
theorem dX8_findRings_166 : decode cX8_findRings 166 = .ok (.iload 7, 2) := by decide +kernel
theorem dX8_findRings_168 : decode cX8_findRings 168 = .ok (.aload_n 0, 1) := by decide +kernel
theorem dX8_findRings_169 : decode cX8_findRings 169 = .ok (.getfield 62, 3) := by decide +kernel
theorem dX8_findRings_172 : decode cX8_findRings 172 = .ok (.iload 7, 2) := by decide +kernel
theorem dX8_findRings_174 : decode cX8_findRings 174 = .ok (.iaload, 1) := by decide +kernel
theorem dX8_findRings_175 : decode cX8_findRings 175 = .ok (.ifCond .ge 7, 3) := by decide +kernel
theorem dX8_findRings_178 : decode cX8_findRings 178 = .ok (.iconst (-1), 1) := by decide +kernel
theorem dX8_findRings_179 : decode cX8_findRings 179 = .ok (.goto 15, 3) := by decide +kernel
theorem dX8_findRings_182 : decode cX8_findRings 182 = .ok (.aload_n 0, 1) := by decide +kernel
theorem dX8_findRings_183 : decode cX8_findRings 183 = .ok (.getfield 65, 3) := by decide +kernel
theorem dX8_findRings_186 : decode cX8_findRings 186 = .ok (.aload_n 0, 1) := by decide +kernel
theorem dX8_findRings_187 : decode cX8_findRings 187 = .ok (.getfield 62, 3) := by decide +kernel
theorem dX8_findRings_190 : decode cX8_findRings 190 = .ok (.iload 7, 2) := by decide +kernel
theorem dX8_findRings_192 : decode cX8_findRings 192 = .ok (.iaload, 1) := by decide +kernel
theorem dX8_findRings_193 : decode cX8_findRings 193 = .ok (.iaload, 1) := by decide +kernel
theorem dX8_findRings_194 : decode cX8_findRings 194 = .ok (.iastore, 1) := by decide +kernel
theorem dX8_findRings_195 : decode cX8_findRings 195 = .ok (.aload_n 0, 1) := by decide +kernel
theorem dX8_findRings_196 : decode cX8_findRings 196 = .ok (.getfield 71, 3) := by decide +kernel
theorem dX8_findRings_199 : decode cX8_findRings 199 = .ok (.iload 7, 2) := by decide +kernel
theorem dX8_findRings_201 : decode cX8_findRings 201 = .ok (.aload_n 0, 1) := by decide +kernel
theorem dX8_findRings_202 : decode cX8_findRings 202 = .ok (.getfield 65, 3) := by decide +kernel
theorem dX8_findRings_205 : decode cX8_findRings 205 = .ok (.iload 7, 2) := by decide +kernel
theorem dX8_findRings_207 : decode cX8_findRings 207 = .ok (.iaload, 1) := by decide +kernel
theorem dX8_findRings_208 : decode cX8_findRings 208 = .ok (.iastore, 1) := by decide +kernel
theorem dX8_findRings_209 : decode cX8_findRings 209 = .ok (.iinc 7 1, 3) := by decide +kernel
theorem dX8_findRings_212 : decode cX8_findRings 212 = .ok (.goto (-59), 3) := by decide +kernel
theorem dX8_findRings_215 : decode cX8_findRings 215 = .ok (.iinc 5 1, 3) := by decide +kernel
theorem dX8_findRings_218 : decode cX8_findRings 218 = .ok (.goto (-103), 3) := by decide +kernel
theorem dX8_findRings_221 : decode cX8_findRings 221 = .ok (.iinc 3 1, 3) := by decide +kernel
theorem dX8_findRings_224 : decode cX8_findRings 224 = .ok (.goto (-166), 3) := by decide +kernel
theorem dX8_findRings_227 : decode cX8_findRings 227 = .ok (.iload_n 1, 1) := by decide +kernel
theorem dX8_findRings_228 : decode cX8_findRings 228 = .ok (.ireturn, 1) := by decide +kernel
theorem dX8_rings_0 : decode cX8_rings 0 = .ok (.iload_n 1, 1) := by decide +kernel
theorem dX8_rings_1 : decode cX8_rings 1 = .ok (.iconst (-1), 1) := by decide +kernel
theorem dX8_rings_2 : decode cX8_rings 2 = .ok (.if_icmp .eq 14, 3) := by decide +kernel
theorem dX8_rings_5 : decode cX8_rings 5 = .ok (.aload_n 0, 1) := by decide +kernel
theorem dX8_rings_6 : decode cX8_rings 6 = .ok (.iload_n 1, 1) := by decide +kernel
theorem dX8_rings_7 : decode cX8_rings 7 = .ok (.invokevirtual 218, 3) := by decide +kernel
theorem dX8_rings_10 : decode cX8_rings 10 = .ok (.ifCond .ne 6, 3) := by decide +kernel
theorem dX8_rings_13 : decode cX8_rings 13 = .ok (.ldc 222, 2) := by decide +kernel
theorem dX8_rings_15 : decode cX8_rings 15 = .ok (.ireturn, 1) := by decide +kernel
theorem dX8_rings_16 : decode cX8_rings 16 = .ok (.iload_n 2, 1) := by decide +kernel
theorem dX8_rings_17 : decode cX8_rings 17 = .ok (.i2l, 1) := by decide +kernel
theorem dX8_rings_18 : decode cX8_rings 18 = .ok (.lconst 0, 1) := by decide +kernel
theorem dX8_rings_19 : decode cX8_rings 19 = .ok (.lconst 1, 1) := by decide +kernel
theorem dX8_rings_20 : decode cX8_rings 20 = .ok (.invokestatic 102, 3) := by decide +kernel
theorem dX8_rings_23 : decode cX8_rings 23 = .ok (.ifCond .ne 6, 3) := by decide +kernel
theorem dX8_rings_26 : decode cX8_rings 26 = .ok (.ldc 117, 2) := by decide +kernel
theorem dX8_rings_28 : decode cX8_rings 28 = .ok (.ireturn, 1) := by decide +kernel
theorem dX8_rings_29 : decode cX8_rings 29 = .ok (.aload_n 0, 1) := by decide +kernel
theorem dX8_rings_30 : decode cX8_rings 30 = .ok (.invokevirtual 307, 3) := by decide +kernel
theorem dX8_rings_33 : decode cX8_rings 33 = .ok (.istore_n 3, 1) := by decide +kernel
theorem dX8_rings_34 : decode cX8_rings 34 = .ok (.iload_n 1, 1) := by decide +kernel
theorem dX8_rings_35 : decode cX8_rings 35 = .ok (.iconst (-1), 1) := by decide +kernel
theorem dX8_rings_36 : decode cX8_rings 36 = .ok (.if_icmp .ne 7, 3) := by decide +kernel
theorem dX8_rings_39 : decode cX8_rings 39 = .ok (.iload_n 3, 1) := by decide +kernel
theorem dX8_rings_40 : decode cX8_rings 40 = .ok (.goto 22, 3) := by decide +kernel
theorem dX8_rings_43 : decode cX8_rings 43 = .ok (.iload_n 2, 1) := by decide +kernel
theorem dX8_rings_44 : decode cX8_rings 44 = .ok (.ifCond .ne 12, 3) := by decide +kernel
theorem dX8_rings_47 : decode cX8_rings 47 = .ok (.aload_n 0, 1) := by decide +kernel
theorem dX8_rings_48 : decode cX8_rings 48 = .ok (.getfield 71, 3) := by decide +kernel
theorem dX8_rings_51 : decode cX8_rings 51 = .ok (.iload_n 1, 1) := by decide +kernel
theorem dX8_rings_52 : decode cX8_rings 52 = .ok (.iaload, 1) := by decide +kernel
theorem dX8_rings_53 : decode cX8_rings 53 = .ok (.goto 9, 3) := by decide +kernel
theorem dX8_rings_56 : decode cX8_rings 56 = .ok (.aload_n 0, 1) := by decide +kernel
theorem dX8_rings_57 : decode cX8_rings 57 = .ok (.getfield 68, 3) := by decide +kernel
theorem dX8_rings_60 : decode cX8_rings 60 = .ok (.iload_n 1, 1) := by decide +kernel
theorem dX8_rings_61 : decode cX8_rings 61 = .ok (.iaload, 1) := by decide +kernel
theorem dX8_rings_62 : decode cX8_rings 62 = .ok (.ireturn, 1) := by decide +kernel
theorem dX8_oddsBy_0 : decode cX8_oddsBy 0 = .ok (.ldc2_w 310, 3) := by decide +kernel
theorem dX8_oddsBy_3 : decode cX8_oddsBy 3 = .ok (.lstore_n 2, 1) := by decide +kernel
theorem dX8_oddsBy_4 : decode cX8_oddsBy 4 = .ok (.iconst 0, 1) := by decide +kernel
theorem dX8_oddsBy_5 : decode cX8_oddsBy 5 = .ok (.istore 4, 2) := by decide +kernel
theorem dX8_oddsBy_7 : decode cX8_oddsBy 7 = .ok (.iload 4, 2) := by decide +kernel
theorem dX8_oddsBy_9 : decode cX8_oddsBy 9 = .ok (.iload_n 1, 1) := by decide +kernel
theorem dX8_oddsBy_10 : decode cX8_oddsBy 10 = .ok (.if_icmp .ge 25, 3) := by decide +kernel
theorem dX8_oddsBy_13 : decode cX8_oddsBy 13 = .ok (.lload_n 2, 1) := by decide +kernel
theorem dX8_oddsBy_14 : decode cX8_oddsBy 14 = .ok (.aload_n 0, 1) := by decide +kernel
theorem dX8_oddsBy_15 : decode cX8_oddsBy 15 = .ok (.getfield 96, 3) := by decide +kernel
theorem dX8_oddsBy_18 : decode cX8_oddsBy 18 = .ok (.iconst 1, 1) := by decide +kernel
theorem dX8_oddsBy_19 : decode cX8_oddsBy 19 = .ok (.isub, 1) := by decide +kernel
theorem dX8_oddsBy_20 : decode cX8_oddsBy 20 = .ok (.i2l, 1) := by decide +kernel
theorem dX8_oddsBy_21 : decode cX8_oddsBy 21 = .ok (.lmul, 1) := by decide +kernel
theorem dX8_oddsBy_22 : decode cX8_oddsBy 22 = .ok (.aload_n 0, 1) := by decide +kernel
theorem dX8_oddsBy_23 : decode cX8_oddsBy 23 = .ok (.getfield 96, 3) := by decide +kernel
theorem dX8_oddsBy_26 : decode cX8_oddsBy 26 = .ok (.i2l, 1) := by decide +kernel
theorem dX8_oddsBy_27 : decode cX8_oddsBy 27 = .ok (.ldiv, 1) := by decide +kernel
theorem dX8_oddsBy_28 : decode cX8_oddsBy 28 = .ok (.lstore_n 2, 1) := by decide +kernel
theorem dX8_oddsBy_29 : decode cX8_oddsBy 29 = .ok (.iinc 4 1, 3) := by decide +kernel
theorem dX8_oddsBy_32 : decode cX8_oddsBy 32 = .ok (.goto (-25), 3) := by decide +kernel
theorem dX8_oddsBy_35 : decode cX8_oddsBy 35 = .ok (.ldc2_w 310, 3) := by decide +kernel
theorem dX8_oddsBy_38 : decode cX8_oddsBy 38 = .ok (.lload_n 2, 1) := by decide +kernel
theorem dX8_oddsBy_39 : decode cX8_oddsBy 39 = .ok (.lsub, 1) := by decide +kernel
theorem dX8_oddsBy_40 : decode cX8_oddsBy 40 = .ok (.lreturn, 1) := by decide +kernel
theorem dX8_odds_0 : decode cX8_odds 0 = .ok (.aload_n 0, 1) := by decide +kernel
theorem dX8_odds_1 : decode cX8_odds 1 = .ok (.iload_n 1, 1) := by decide +kernel
theorem dX8_odds_2 : decode cX8_odds 2 = .ok (.invokevirtual 229, 3) := by decide +kernel
theorem dX8_odds_5 : decode cX8_odds 5 = .ok (.ifCond .ne 6, 3) := by decide +kernel
theorem dX8_odds_8 : decode cX8_odds 8 = .ok (.ldc 222, 2) := by decide +kernel
theorem dX8_odds_10 : decode cX8_odds 10 = .ok (.ireturn, 1) := by decide +kernel
theorem dX8_odds_11 : decode cX8_odds 11 = .ok (.iload_n 2, 1) := by decide +kernel
theorem dX8_odds_12 : decode cX8_odds 12 = .ok (.i2l, 1) := by decide +kernel
theorem dX8_odds_13 : decode cX8_odds 13 = .ok (.lconst 0, 1) := by decide +kernel
theorem dX8_odds_14 : decode cX8_odds 14 = .ok (.ldc2_w 312, 3) := by decide +kernel
theorem dX8_odds_17 : decode cX8_odds 17 = .ok (.invokestatic 102, 3) := by decide +kernel
theorem dX8_odds_20 : decode cX8_odds 20 = .ok (.ifCond .eq 12, 3) := by decide +kernel
theorem dX8_odds_23 : decode cX8_odds 23 = .ok (.aload_n 0, 1) := by decide +kernel
theorem dX8_odds_24 : decode cX8_odds 24 = .ok (.iload_n 2, 1) := by decide +kernel
theorem dX8_odds_25 : decode cX8_odds 25 = .ok (.invokevirtual 314, 3) := by decide +kernel
theorem dX8_odds_28 : decode cX8_odds 28 = .ok (.l2i, 1) := by decide +kernel
theorem dX8_odds_29 : decode cX8_odds 29 = .ok (.goto 5, 3) := by decide +kernel
theorem dX8_odds_32 : decode cX8_odds 32 = .ok (.ldc 117, 2) := by decide +kernel
theorem dX8_odds_34 : decode cX8_odds 34 = .ok (.ireturn, 1) := by decide +kernel
theorem dX8_waits_0 : decode cX8_waits 0 = .ok (.aload_n 0, 1) := by decide +kernel
theorem dX8_waits_1 : decode cX8_waits 1 = .ok (.iload_n 1, 1) := by decide +kernel
theorem dX8_waits_2 : decode cX8_waits 2 = .ok (.invokevirtual 218, 3) := by decide +kernel
theorem dX8_waits_5 : decode cX8_waits 5 = .ok (.ifCond .eq 11, 3) := by decide +kernel
theorem dX8_waits_8 : decode cX8_waits 8 = .ok (.aload_n 0, 1) := by decide +kernel
theorem dX8_waits_9 : decode cX8_waits 9 = .ok (.iload_n 2, 1) := by decide +kernel
theorem dX8_waits_10 : decode cX8_waits 10 = .ok (.invokevirtual 229, 3) := by decide +kernel
theorem dX8_waits_13 : decode cX8_waits 13 = .ok (.ifCond .ne 6, 3) := by decide +kernel
theorem dX8_waits_16 : decode cX8_waits 16 = .ok (.ldc 222, 2) := by decide +kernel
theorem dX8_waits_18 : decode cX8_waits 18 = .ok (.ireturn, 1) := by decide +kernel
theorem dX8_waits_19 : decode cX8_waits 19 = .ok (.iload_n 3, 1) := by decide +kernel
theorem dX8_waits_20 : decode cX8_waits 20 = .ok (.i2l, 1) := by decide +kernel
theorem dX8_waits_21 : decode cX8_waits 21 = .ok (.lconst 0, 1) := by decide +kernel
theorem dX8_waits_22 : decode cX8_waits 22 = .ok (.ldc2_w 261, 3) := by decide +kernel
theorem dX8_waits_25 : decode cX8_waits 25 = .ok (.invokestatic 102, 3) := by decide +kernel
theorem dX8_waits_28 : decode cX8_waits 28 = .ok (.ifCond .ne 6, 3) := by decide +kernel
theorem dX8_waits_31 : decode cX8_waits 31 = .ok (.ldc 117, 2) := by decide +kernel
theorem dX8_waits_33 : decode cX8_waits 33 = .ok (.ireturn, 1) := by decide +kernel
theorem dX8_waits_34 : decode cX8_waits 34 = .ok (.aload_n 0, 1) := by decide +kernel
theorem dX8_waits_35 : decode cX8_waits 35 = .ok (.iload_n 1, 1) := by decide +kernel
theorem dX8_waits_36 : decode cX8_waits 36 = .ok (.invokevirtual 255, 3) := by decide +kernel
theorem dX8_waits_39 : decode cX8_waits 39 = .ok (.istore 4, 2) := by decide +kernel
theorem dX8_waits_41 : decode cX8_waits 41 = .ok (.iload 4, 2) := by decide +kernel
theorem dX8_waits_43 : decode cX8_waits 43 = .ok (.ifCond .ge 7, 3) := by decide +kernel
theorem dX8_waits_46 : decode cX8_waits 46 = .ok (.lconst 0, 1) := by decide +kernel
theorem dX8_waits_47 : decode cX8_waits 47 = .ok (.goto 11, 3) := by decide +kernel
theorem dX8_waits_50 : decode cX8_waits 50 = .ok (.aload_n 0, 1) := by decide +kernel
theorem dX8_waits_51 : decode cX8_waits 51 = .ok (.iload_n 1, 1) := by decide +kernel
theorem dX8_waits_52 : decode cX8_waits 52 = .ok (.iload 4, 2) := by decide +kernel
theorem dX8_waits_54 : decode cX8_waits 54 = .ok (.invokevirtual 249, 3) := by decide +kernel
theorem dX8_waits_57 : decode cX8_waits 57 = .ok (.i2l, 1) := by decide +kernel
theorem dX8_waits_58 : decode cX8_waits 58 = .ok (.lstore 5, 2) := by decide +kernel
theorem dX8_waits_60 : decode cX8_waits 60 = .ok (.aload_n 0, 1) := by decide +kernel
theorem dX8_waits_61 : decode cX8_waits 61 = .ok (.iload_n 1, 1) := by decide +kernel
theorem dX8_waits_62 : decode cX8_waits 62 = .ok (.invokevirtual 205, 3) := by decide +kernel
theorem dX8_waits_65 : decode cX8_waits 65 = .ok (.iload_n 2, 1) := by decide +kernel
theorem dX8_waits_66 : decode cX8_waits 66 = .ok (.invokestatic 201, 3) := by decide +kernel
theorem dX8_waits_69 : decode cX8_waits 69 = .ok (.ifCond .eq 7, 3) := by decide +kernel
theorem dX8_waits_72 : decode cX8_waits 72 = .ok (.lconst 0, 1) := by decide +kernel
theorem dX8_waits_73 : decode cX8_waits 73 = .ok (.goto 15, 3) := by decide +kernel
theorem dX8_waits_76 : decode cX8_waits 76 = .ok (.aload_n 0, 1) := by decide +kernel
theorem dX8_waits_77 : decode cX8_waits 77 = .ok (.getfield 13, 3) := by decide +kernel
theorem dX8_waits_80 : decode cX8_waits 80 = .ok (.bipush 6, 2) := by decide +kernel
theorem dX8_waits_82 : decode cX8_waits 82 = .ok (.iload_n 1, 1) := by decide +kernel
theorem dX8_waits_83 : decode cX8_waits 83 = .ok (.imul, 1) := by decide +kernel
theorem dX8_waits_84 : decode cX8_waits 84 = .ok (.iload_n 2, 1) := by decide +kernel
theorem dX8_waits_85 : decode cX8_waits 85 = .ok (.iadd, 1) := by decide +kernel
theorem dX8_waits_86 : decode cX8_waits 86 = .ok (.iaload, 1) := by decide +kernel
theorem dX8_waits_87 : decode cX8_waits 87 = .ok (.i2l, 1) := by decide +kernel
theorem dX8_waits_88 : decode cX8_waits 88 = .ok (.lstore 7, 2) := by decide +kernel
theorem dX8_waits_90 : decode cX8_waits 90 = .ok (.iconst (-1), 1) := by decide +kernel
theorem dX8_waits_91 : decode cX8_waits 91 = .ok (.istore 9, 2) := by decide +kernel
theorem dX8_waits_93 : decode cX8_waits 93 = .ok (.iconst 0, 1) := by decide +kernel
theorem dX8_waits_94 : decode cX8_waits 94 = .ok (.istore 10, 2) := by decide +kernel
theorem dX8_waits_96 : decode cX8_waits 96 = .ok (.iload 10, 2) := by decide +kernel
theorem dX8_waits_98 : decode cX8_waits 98 = .ok (.bipush 60, 2) := by decide +kernel
theorem dX8_waits_100 : decode cX8_waits 100 = .ok (.if_icmp .gt 65, 3) := by decide +kernel
theorem dX8_waits_103 : decode cX8_waits 103 = .ok (.lload 7, 2) := by decide +kernel
theorem dX8_waits_105 : decode cX8_waits 105 = .ok (.aload_n 0, 1) := by decide +kernel
theorem dX8_waits_106 : decode cX8_waits 106 = .ok (.iload 10, 2) := by decide +kernel
theorem dX8_waits_108 : decode cX8_waits 108 = .ok (.invokevirtual 314, 3) := by decide +kernel
theorem dX8_waits_111 : decode cX8_waits 111 = .ok (.lmul, 1) := by decide +kernel
theorem dX8_waits_112 : decode cX8_waits 112 = .ok (.ldc2_w 310, 3) := by decide +kernel
theorem dX8_waits_115 : decode cX8_waits 115 = .ok (.ldiv, 1) := by decide +kernel
theorem dX8_waits_116 : decode cX8_waits 116 = .ok (.iload 10, 2) := by decide +kernel
theorem dX8_waits_118 : decode cX8_waits 118 = .ok (.i2l, 1) := by decide +kernel
theorem dX8_waits_119 : decode cX8_waits 119 = .ok (.iload_n 3, 1) := by decide +kernel
theorem dX8_waits_120 : decode cX8_waits 120 = .ok (.i2l, 1) := by decide +kernel
theorem dX8_waits_121 : decode cX8_waits 121 = .ok (.lmul, 1) := by decide +kernel
theorem dX8_waits_122 : decode cX8_waits 122 = .ok (.lsub, 1) := by decide +kernel
theorem dX8_waits_123 : decode cX8_waits 123 = .ok (.lstore 11, 2) := by decide +kernel
theorem dX8_waits_125 : decode cX8_waits 125 = .ok (.lload 11, 2) := by decide +kernel
theorem dX8_waits_127 : decode cX8_waits 127 = .ok (.lload 5, 2) := by decide +kernel
theorem dX8_waits_129 : decode cX8_waits 129 = .ok (.lcmp, 1) := by decide +kernel
theorem dX8_waits_130 : decode cX8_waits 130 = .ok (.ifCond .le 8, 3) := by decide +kernel
theorem dX8_waits_133 : decode cX8_waits 133 = .ok (.iload 10, 2) := by decide +kernel
theorem dX8_waits_135 : decode cX8_waits 135 = .ok (.goto 5, 3) := by decide +kernel
theorem dX8_waits_138 : decode cX8_waits 138 = .ok (.iload 9, 2) := by decide +kernel
theorem dX8_waits_140 : decode cX8_waits 140 = .ok (.istore 9, 2) := by decide +kernel
theorem dX8_waits_142 : decode cX8_waits 142 = .ok (.lload 11, 2) := by decide +kernel
theorem dX8_waits_144 : decode cX8_waits 144 = .ok (.lload 5, 2) := by decide +kernel
theorem dX8_waits_146 : decode cX8_waits 146 = .ok (.lcmp, 1) := by decide +kernel
theorem dX8_waits_147 : decode cX8_waits 147 = .ok (.ifCond .le 8, 3) := by decide +kernel
theorem dX8_waits_150 : decode cX8_waits 150 = .ok (.lload 11, 2) := by decide +kernel
theorem dX8_waits_152 : decode cX8_waits 152 = .ok (.goto 5, 3) := by decide +kernel
theorem dX8_waits_155 : decode cX8_waits 155 = .ok (.lload 5, 2) := by decide +kernel
theorem dX8_waits_157 : decode cX8_waits 157 = .ok (.lstore 5, 2) := by decide +kernel
theorem dX8_waits_159 : decode cX8_waits 159 = .ok (.iinc 10 1, 3) := by decide +kernel
theorem dX8_waits_162 : decode cX8_waits 162 = .ok (.goto (-66), 3) := by decide +kernel
theorem dX8_waits_165 : decode cX8_waits 165 = .ok (.iload 9, 2) := by decide +kernel
theorem dX8_waits_167 : decode cX8_waits 167 = .ok (.ireturn, 1) := by decide +kernel
theorem dX8_power_0 : decode cX8_power 0 = .ok (.iconst 1, 1) := by decide +kernel
theorem dX8_power_1 : decode cX8_power 1 = .ok (.istore_n 1, 1) := by decide +kernel
theorem dX8_power_2 : decode cX8_power 2 = .ok (.iconst 0, 1) := by decide +kernel
theorem dX8_power_3 : decode cX8_power 3 = .ok (.istore_n 2, 1) := by decide +kernel
theorem dX8_power_4 : decode cX8_power 4 = .ok (.iload_n 2, 1) := by decide +kernel
theorem dX8_power_5 : decode cX8_power 5 = .ok (.iload_n 0, 1) := by decide +kernel
theorem dX8_power_6 : decode cX8_power 6 = .ok (.if_icmp .ge 14, 3) := by decide +kernel
theorem dX8_power_9 : decode cX8_power 9 = .ok (.iload_n 1, 1) := by decide +kernel
theorem dX8_power_10 : decode cX8_power 10 = .ok (.bipush 9, 2) := by decide +kernel
theorem dX8_power_12 : decode cX8_power 12 = .ok (.imul, 1) := by decide +kernel
theorem dX8_power_13 : decode cX8_power 13 = .ok (.istore_n 1, 1) := by decide +kernel
theorem dX8_power_14 : decode cX8_power 14 = .ok (.iinc 2 1, 3) := by decide +kernel
theorem dX8_power_17 : decode cX8_power 17 = .ok (.goto (-13), 3) := by decide +kernel
theorem dX8_power_20 : decode cX8_power 20 = .ok (.iload_n 1, 1) := by decide +kernel
theorem dX8_power_21 : decode cX8_power 21 = .ok (.ireturn, 1) := by decide +kernel
theorem dX8_findLie_0 : decode cX8_findLie 0 = .ok (.aload_n 0, 1) := by decide +kernel
theorem dX8_findLie_1 : decode cX8_findLie 1 = .ok (.iconst 0, 1) := by decide +kernel
theorem dX8_findLie_2 : decode cX8_findLie 2 = .ok (.putfield 318, 3) := by decide +kernel
theorem dX8_findLie_5 : decode cX8_findLie 5 = .ok (.iconst 0, 1) := by decide +kernel
theorem dX8_findLie_6 : decode cX8_findLie 6 = .ok (.istore_n 2, 1) := by decide +kernel
theorem dX8_findLie_7 : decode cX8_findLie 7 = .ok (.iload_n 2, 1) := by decide +kernel
theorem dX8_findLie_8 : decode cX8_findLie 8 = .ok (.aload_n 0, 1) := by decide +kernel
theorem dX8_findLie_9 : decode cX8_findLie 9 = .ok (.getfield 106, 3) := by decide +kernel
theorem dX8_findLie_12 : decode cX8_findLie 12 = .ok (.if_icmp .ge 57, 3) := by decide +kernel
theorem dX8_findLie_15 : decode cX8_findLie 15 = .ok (.aload_n 0, 1) := by decide +kernel
theorem dX8_findLie_16 : decode cX8_findLie 16 = .ok (.getfield 318, 3) := by decide +kernel
theorem dX8_findLie_19 : decode cX8_findLie 19 = .ok (.bipush 8, 2) := by decide +kernel
theorem dX8_findLie_21 : decode cX8_findLie 21 = .ok (.if_icmp .ge 48, 3) := by decide +kernel
theorem dX8_findLie_24 : decode cX8_findLie 24 = .ok (.aload_n 0, 1) := by decide +kernel
theorem dX8_findLie_25 : decode cX8_findLie 25 = .ok (.getfield 25, 3) := by decide +kernel
theorem dX8_findLie_28 : decode cX8_findLie 28 = .ok (.iload_n 2, 1) := by decide +kernel
theorem dX8_findLie_29 : decode cX8_findLie 29 = .ok (.iaload, 1) := by decide +kernel
theorem dX8_findLie_30 : decode cX8_findLie 30 = .ok (.ifCond .ge 33, 3) := by decide +kernel
theorem dX8_findLie_33 : decode cX8_findLie 33 = .ok (.aload_n 0, 1) := by decide +kernel
theorem dX8_findLie_34 : decode cX8_findLie 34 = .ok (.getfield 28, 3) := by decide +kernel
theorem dX8_findLie_37 : decode cX8_findLie 37 = .ok (.iload_n 2, 1) := by decide +kernel
theorem dX8_findLie_38 : decode cX8_findLie 38 = .ok (.iaload, 1) := by decide +kernel
theorem dX8_findLie_39 : decode cX8_findLie 39 = .ok (.iload_n 1, 1) := by decide +kernel
theorem dX8_findLie_40 : decode cX8_findLie 40 = .ok (.if_icmp .ne 23, 3) := by decide +kernel
theorem dX8_findLie_43 : decode cX8_findLie 43 = .ok (.aload_n 0, 1) := by decide +kernel
theorem dX8_findLie_44 : decode cX8_findLie 44 = .ok (.getfield 74, 3) := by decide +kernel
theorem dX8_findLie_47 : decode cX8_findLie 47 = .ok (.aload_n 0, 1) := by decide +kernel
theorem dX8_findLie_48 : decode cX8_findLie 48 = .ok (.getfield 318, 3) := by decide +kernel
theorem dX8_findLie_51 : decode cX8_findLie 51 = .ok (.iload_n 2, 1) := by decide +kernel
theorem dX8_findLie_52 : decode cX8_findLie 52 = .ok (.iastore, 1) := by decide +kernel
theorem dX8_findLie_53 : decode cX8_findLie 53 = .ok (.aload_n 0, 1) := by decide +kernel
theorem dX8_findLie_54 : decode cX8_findLie 54 = .ok (.dup, 1) := by decide +kernel
theorem dX8_findLie_55 : decode cX8_findLie 55 = .ok (.getfield 318, 3) := by decide +kernel
theorem dX8_findLie_58 : decode cX8_findLie 58 = .ok (.iconst 1, 1) := by decide +kernel
theorem dX8_findLie_59 : decode cX8_findLie 59 = .ok (.iadd, 1) := by decide +kernel
theorem dX8_findLie_60 : decode cX8_findLie 60 = .ok (.putfield 318, 3) := by decide +kernel
theorem dX8_findLie_63 : decode cX8_findLie 63 = .ok (.iinc 2 1, 3) := by decide +kernel
theorem dX8_findLie_66 : decode cX8_findLie 66 = .ok (.goto (-59), 3) := by decide +kernel
theorem dX8_findLie_69 : decode cX8_findLie 69 = .ok (.return_, 1) := by decide +kernel
theorem dX8_mayBe_0 : decode cX8_mayBe 0 = .ok (.iload_n 1, 1) := by decide +kernel
theorem dX8_mayBe_1 : decode cX8_mayBe 1 = .ok (.iload_n 2, 1) := by decide +kernel
theorem dX8_mayBe_2 : decode cX8_mayBe 2 = .ok (.iconst 1, 1) := by decide +kernel
theorem dX8_mayBe_3 : decode cX8_mayBe 3 = .ok (.isub, 1) := by decide +kernel
theorem dX8_mayBe_4 : decode cX8_mayBe 4 = .ok (.invokestatic 321, 3) := by decide +kernel
theorem dX8_mayBe_7 : decode cX8_mayBe 7 = .ok (.idiv, 1) := by decide +kernel
theorem dX8_mayBe_8 : decode cX8_mayBe 8 = .ok (.bipush 9, 2) := by decide +kernel
theorem dX8_mayBe_10 : decode cX8_mayBe 10 = .ok (.irem, 1) := by decide +kernel
theorem dX8_mayBe_11 : decode cX8_mayBe 11 = .ok (.istore 4, 2) := by decide +kernel
theorem dX8_mayBe_13 : decode cX8_mayBe 13 = .ok (.iload 4, 2) := by decide +kernel
theorem dX8_mayBe_15 : decode cX8_mayBe 15 = .ok (.ifCond .ne 5, 3) := by decide +kernel
theorem dX8_mayBe_18 : decode cX8_mayBe 18 = .ok (.iconst 1, 1) := by decide +kernel
theorem dX8_mayBe_19 : decode cX8_mayBe 19 = .ok (.ireturn, 1) := by decide +kernel
theorem dX8_mayBe_20 : decode cX8_mayBe 20 = .ok (.iload_n 3, 1) := by decide +kernel
theorem dX8_mayBe_21 : decode cX8_mayBe 21 = .ok (.istore 5, 2) := by decide +kernel
theorem dX8_mayBe_23 : decode cX8_mayBe 23 = .ok (.iload 4, 2) := by decide +kernel
theorem dX8_mayBe_25 : decode cX8_mayBe 25 = .ok (.aload_n 0, 1) := by decide +kernel
theorem dX8_mayBe_26 : decode cX8_mayBe 26 = .ok (.getfield 318, 3) := by decide +kernel
theorem dX8_mayBe_29 : decode cX8_mayBe 29 = .ok (.if_icmp .gt 7, 3) := by decide +kernel
theorem dX8_mayBe_32 : decode cX8_mayBe 32 = .ok (.iconst 1, 1) := by decide +kernel
theorem dX8_mayBe_33 : decode cX8_mayBe 33 = .ok (.goto 4, 3) := by decide +kernel
theorem dX8_mayBe_36 : decode cX8_mayBe 36 = .ok (.iconst 0, 1) := by decide +kernel
theorem dX8_mayBe_37 : decode cX8_mayBe 37 = .ok (.istore 6, 2) := by decide +kernel
theorem dX8_mayBe_39 : decode cX8_mayBe 39 = .ok (.iconst 0, 1) := by decide +kernel
theorem dX8_mayBe_40 : decode cX8_mayBe 40 = .ok (.istore 7, 2) := by decide +kernel
theorem dX8_mayBe_42 : decode cX8_mayBe 42 = .ok (.iload 7, 2) := by decide +kernel
theorem dX8_mayBe_44 : decode cX8_mayBe 44 = .ok (.iload_n 2, 1) := by decide +kernel
theorem dX8_mayBe_45 : decode cX8_mayBe 45 = .ok (.iconst 1, 1) := by decide +kernel
theorem dX8_mayBe_46 : decode cX8_mayBe 46 = .ok (.isub, 1) := by decide +kernel
theorem dX8_mayBe_47 : decode cX8_mayBe 47 = .ok (.if_icmp .ge 67, 3) := by decide +kernel
theorem dX8_mayBe_50 : decode cX8_mayBe 50 = .ok (.iload_n 1, 1) := by decide +kernel
theorem dX8_mayBe_51 : decode cX8_mayBe 51 = .ok (.iload 7, 2) := by decide +kernel
theorem dX8_mayBe_53 : decode cX8_mayBe 53 = .ok (.invokestatic 321, 3) := by decide +kernel
theorem dX8_mayBe_56 : decode cX8_mayBe 56 = .ok (.idiv, 1) := by decide +kernel
theorem dX8_mayBe_57 : decode cX8_mayBe 57 = .ok (.bipush 9, 2) := by decide +kernel
theorem dX8_mayBe_59 : decode cX8_mayBe 59 = .ok (.irem, 1) := by decide +kernel
theorem dX8_mayBe_60 : decode cX8_mayBe 60 = .ok (.istore 8, 2) := by decide +kernel
theorem dX8_mayBe_62 : decode cX8_mayBe 62 = .ok (.iload 6, 2) := by decide +kernel
theorem dX8_mayBe_64 : decode cX8_mayBe 64 = .ok (.ifCond .eq 14, 3) := by decide +kernel
theorem dX8_mayBe_67 : decode cX8_mayBe 67 = .ok (.iload 8, 2) := by decide +kernel
theorem dX8_mayBe_69 : decode cX8_mayBe 69 = .ok (.iload 4, 2) := by decide +kernel
theorem dX8_mayBe_71 : decode cX8_mayBe 71 = .ok (.if_icmp .eq 7, 3) := by decide +kernel
theorem dX8_mayBe_74 : decode cX8_mayBe 74 = .ok (.iconst 1, 1) := by decide +kernel
theorem dX8_mayBe_75 : decode cX8_mayBe 75 = .ok (.goto 4, 3) := by decide +kernel
theorem dX8_mayBe_78 : decode cX8_mayBe 78 = .ok (.iconst 0, 1) := by decide +kernel
theorem dX8_mayBe_79 : decode cX8_mayBe 79 = .ok (.istore 6, 2) := by decide +kernel
theorem dX8_mayBe_81 : decode cX8_mayBe 81 = .ok (.iload 5, 2) := by decide +kernel
theorem dX8_mayBe_83 : decode cX8_mayBe 83 = .ok (.iload 7, 2) := by decide +kernel
theorem dX8_mayBe_85 : decode cX8_mayBe 85 = .ok (.iconst 2, 1) := by decide +kernel
theorem dX8_mayBe_86 : decode cX8_mayBe 86 = .ok (.irem, 1) := by decide +kernel
theorem dX8_mayBe_87 : decode cX8_mayBe 87 = .ok (.iload_n 2, 1) := by decide +kernel
theorem dX8_mayBe_88 : decode cX8_mayBe 88 = .ok (.iconst 1, 1) := by decide +kernel
theorem dX8_mayBe_89 : decode cX8_mayBe 89 = .ok (.isub, 1) := by decide +kernel
theorem dX8_mayBe_90 : decode cX8_mayBe 90 = .ok (.iconst 2, 1) := by decide +kernel
theorem dX8_mayBe_91 : decode cX8_mayBe 91 = .ok (.irem, 1) := by decide +kernel
theorem dX8_mayBe_92 : decode cX8_mayBe 92 = .ok (.if_icmp .ne 12, 3) := by decide +kernel
theorem dX8_mayBe_95 : decode cX8_mayBe 95 = .ok (.iload 8, 2) := by decide +kernel
theorem dX8_mayBe_97 : decode cX8_mayBe 97 = .ok (.ifCond .le 7, 3) := by decide +kernel
theorem dX8_mayBe_100 : decode cX8_mayBe 100 = .ok (.iconst 1, 1) := by decide +kernel
theorem dX8_mayBe_101 : decode cX8_mayBe 101 = .ok (.goto 4, 3) := by decide +kernel
theorem dX8_mayBe_104 : decode cX8_mayBe 104 = .ok (.iconst 0, 1) := by decide +kernel
theorem dX8_mayBe_105 : decode cX8_mayBe 105 = .ok (.iadd, 1) := by decide +kernel
theorem dX8_mayBe_106 : decode cX8_mayBe 106 = .ok (.istore 5, 2) := by decide +kernel
theorem dX8_mayBe_108 : decode cX8_mayBe 108 = .ok (.iinc 7 1, 3) := by decide +kernel
theorem dX8_mayBe_111 : decode cX8_mayBe 111 = .ok (.goto (-69), 3) := by decide +kernel
theorem dX8_mayBe_114 : decode cX8_mayBe 114 = .ok (.iload 6, 2) := by decide +kernel
theorem dX8_mayBe_116 : decode cX8_mayBe 116 = .ok (.ifCond .eq 13, 3) := by decide +kernel
theorem dX8_mayBe_119 : decode cX8_mayBe 119 = .ok (.iload 5, 2) := by decide +kernel
theorem dX8_mayBe_121 : decode cX8_mayBe 121 = .ok (.iconst 4, 1) := by decide +kernel
theorem dX8_mayBe_122 : decode cX8_mayBe 122 = .ok (.if_icmp .ge 7, 3) := by decide +kernel
theorem dX8_mayBe_125 : decode cX8_mayBe 125 = .ok (.iconst 1, 1) := by decide +kernel
theorem dX8_mayBe_126 : decode cX8_mayBe 126 = .ok (.goto 4, 3) := by decide +kernel
theorem dX8_mayBe_129 : decode cX8_mayBe 129 = .ok (.iconst 0, 1) := by decide +kernel
theorem dX8_mayBe_130 : decode cX8_mayBe 130 = .ok (.ireturn, 1) := by decide +kernel
theorem dX8_endOf_0 : decode cX8_endOf 0 = .ok (.aload_n 0, 1) := by decide +kernel
theorem dX8_endOf_1 : decode cX8_endOf 1 = .ok (.iload_n 1, 1) := by decide +kernel
theorem dX8_endOf_2 : decode cX8_endOf 2 = .ok (.invokevirtual 205, 3) := by decide +kernel
theorem dX8_endOf_5 : decode cX8_endOf 5 = .ok (.istore 5, 2) := by decide +kernel
theorem dX8_endOf_7 : decode cX8_endOf 7 = .ok (.aload_n 0, 1) := by decide +kernel
theorem dX8_endOf_8 : decode cX8_endOf 8 = .ok (.iload_n 2, 1) := by decide +kernel
theorem dX8_endOf_9 : decode cX8_endOf 9 = .ok (.invokevirtual 205, 3) := by decide +kernel
theorem dX8_endOf_12 : decode cX8_endOf 12 = .ok (.istore 6, 2) := by decide +kernel
theorem dX8_endOf_14 : decode cX8_endOf 14 = .ok (.iconst 0, 1) := by decide +kernel
theorem dX8_endOf_15 : decode cX8_endOf 15 = .ok (.istore 7, 2) := by decide +kernel
theorem dX8_endOf_17 : decode cX8_endOf 17 = .ok (.iload 7, 2) := by decide +kernel
theorem dX8_endOf_19 : decode cX8_endOf 19 = .ok (.iload_n 3, 1) := by decide +kernel
theorem dX8_endOf_20 : decode cX8_endOf 20 = .ok (.if_icmp .ge 94, 3) := by decide +kernel
theorem dX8_endOf_23 : decode cX8_endOf 23 = .ok (.iload 4, 2) := by decide +kernel
theorem dX8_endOf_25 : decode cX8_endOf 25 = .ok (.iload 7, 2) := by decide +kernel
theorem dX8_endOf_27 : decode cX8_endOf 27 = .ok (.invokestatic 321, 3) := by decide +kernel
theorem dX8_endOf_30 : decode cX8_endOf 30 = .ok (.idiv, 1) := by decide +kernel
theorem dX8_endOf_31 : decode cX8_endOf 31 = .ok (.bipush 9, 2) := by decide +kernel
theorem dX8_endOf_33 : decode cX8_endOf 33 = .ok (.irem, 1) := by decide +kernel
theorem dX8_endOf_34 : decode cX8_endOf 34 = .ok (.istore 8, 2) := by decide +kernel
theorem dX8_endOf_36 : decode cX8_endOf 36 = .ok (.iload 8, 2) := by decide +kernel
theorem dX8_endOf_38 : decode cX8_endOf 38 = .ok (.ifCond .eq 12, 3) := by decide +kernel
theorem dX8_endOf_41 : decode cX8_endOf 41 = .ok (.iload 8, 2) := by decide +kernel
theorem dX8_endOf_43 : decode cX8_endOf 43 = .ok (.aload_n 0, 1) := by decide +kernel
theorem dX8_endOf_44 : decode cX8_endOf 44 = .ok (.getfield 318, 3) := by decide +kernel
theorem dX8_endOf_47 : decode cX8_endOf 47 = .ok (.if_icmp .le 7, 3) := by decide +kernel
theorem dX8_endOf_50 : decode cX8_endOf 50 = .ok (.iconst 0, 1) := by decide +kernel
theorem dX8_endOf_51 : decode cX8_endOf 51 = .ok (.goto 19, 3) := by decide +kernel
theorem dX8_endOf_54 : decode cX8_endOf 54 = .ok (.iconst 1, 1) := by decide +kernel
theorem dX8_endOf_55 : decode cX8_endOf 55 = .ok (.aload_n 0, 1) := by decide +kernel
theorem dX8_endOf_56 : decode cX8_endOf 56 = .ok (.getfield 22, 3) := by decide +kernel
theorem dX8_endOf_59 : decode cX8_endOf 59 = .ok (.aload_n 0, 1) := by decide +kernel
theorem dX8_endOf_60 : decode cX8_endOf 60 = .ok (.getfield 74, 3) := by decide +kernel
theorem dX8_endOf_63 : decode cX8_endOf 63 = .ok (.iload 8, 2) := by decide +kernel
theorem dX8_endOf_65 : decode cX8_endOf 65 = .ok (.iconst 1, 1) := by decide +kernel
theorem dX8_endOf_66 : decode cX8_endOf 66 = .ok (.isub, 1) := by decide +kernel
theorem dX8_endOf_67 : decode cX8_endOf 67 = .ok (.iaload, 1) := by decide +kernel
theorem dX8_endOf_68 : decode cX8_endOf 68 = .ok (.iaload, 1) := by decide +kernel
theorem dX8_endOf_69 : decode cX8_endOf 69 = .ok (.ishl, 1) := by decide +kernel
theorem dX8_endOf_70 : decode cX8_endOf 70 = .ok (.istore 9, 2) := by decide +kernel
theorem dX8_endOf_72 : decode cX8_endOf 72 = .ok (.iload 5, 2) := by decide +kernel
theorem dX8_endOf_74 : decode cX8_endOf 74 = .ok (.iload 7, 2) := by decide +kernel
theorem dX8_endOf_76 : decode cX8_endOf 76 = .ok (.iconst 2, 1) := by decide +kernel
theorem dX8_endOf_77 : decode cX8_endOf 77 = .ok (.irem, 1) := by decide +kernel
theorem dX8_endOf_78 : decode cX8_endOf 78 = .ok (.ifCond .ne 8, 3) := by decide +kernel
theorem dX8_endOf_81 : decode cX8_endOf 81 = .ok (.iload 9, 2) := by decide +kernel
theorem dX8_endOf_83 : decode cX8_endOf 83 = .ok (.goto 4, 3) := by decide +kernel
theorem dX8_endOf_86 : decode cX8_endOf 86 = .ok (.iconst 0, 1) := by decide +kernel
theorem dX8_endOf_87 : decode cX8_endOf 87 = .ok (.ior, 1) := by decide +kernel
theorem dX8_endOf_88 : decode cX8_endOf 88 = .ok (.istore 5, 2) := by decide +kernel
theorem dX8_endOf_90 : decode cX8_endOf 90 = .ok (.iload 6, 2) := by decide +kernel
theorem dX8_endOf_92 : decode cX8_endOf 92 = .ok (.iload 7, 2) := by decide +kernel
theorem dX8_endOf_94 : decode cX8_endOf 94 = .ok (.iconst 2, 1) := by decide +kernel
theorem dX8_endOf_95 : decode cX8_endOf 95 = .ok (.irem, 1) := by decide +kernel
theorem dX8_endOf_96 : decode cX8_endOf 96 = .ok (.ifCond .ne 7, 3) := by decide +kernel
theorem dX8_endOf_99 : decode cX8_endOf 99 = .ok (.iconst 0, 1) := by decide +kernel
theorem dX8_endOf_100 : decode cX8_endOf 100 = .ok (.goto 5, 3) := by decide +kernel
theorem dX8_endOf_103 : decode cX8_endOf 103 = .ok (.iload 9, 2) := by decide +kernel
theorem dX8_endOf_105 : decode cX8_endOf 105 = .ok (.ior, 1) := by decide +kernel
theorem dX8_endOf_106 : decode cX8_endOf 106 = .ok (.istore 6, 2) := by decide +kernel
theorem dX8_endOf_108 : decode cX8_endOf 108 = .ok (.iinc 7 1, 3) := by decide +kernel
theorem dX8_endOf_111 : decode cX8_endOf 111 = .ok (.goto (-94), 3) := by decide +kernel
theorem dX8_endOf_114 : decode cX8_endOf 114 = .ok (.aload_n 0, 1) := by decide +kernel
theorem dX8_endOf_115 : decode cX8_endOf 115 = .ok (.iload_n 1, 1) := by decide +kernel
theorem dX8_endOf_116 : decode cX8_endOf 116 = .ok (.iload 5, 2) := by decide +kernel
theorem dX8_endOf_118 : decode cX8_endOf 118 = .ok (.invokevirtual 209, 3) := by decide +kernel
theorem dX8_endOf_121 : decode cX8_endOf 121 = .ok (.aload_n 0, 1) := by decide +kernel
theorem dX8_endOf_122 : decode cX8_endOf 122 = .ok (.iload_n 2, 1) := by decide +kernel
theorem dX8_endOf_123 : decode cX8_endOf 123 = .ok (.iload 6, 2) := by decide +kernel
theorem dX8_endOf_125 : decode cX8_endOf 125 = .ok (.invokevirtual 209, 3) := by decide +kernel
theorem dX8_endOf_128 : decode cX8_endOf 128 = .ok (.isub, 1) := by decide +kernel
theorem dX8_endOf_129 : decode cX8_endOf 129 = .ok (.ireturn, 1) := by decide +kernel
theorem dX8_turnsAt_0 : decode cX8_turnsAt 0 = .ok (.aload_n 0, 1) := by decide +kernel
theorem dX8_turnsAt_1 : decode cX8_turnsAt 1 = .ok (.iload_n 1, 1) := by decide +kernel
theorem dX8_turnsAt_2 : decode cX8_turnsAt 2 = .ok (.invokevirtual 218, 3) := by decide +kernel
theorem dX8_turnsAt_5 : decode cX8_turnsAt 5 = .ok (.ifCond .eq 39, 3) := by decide +kernel
theorem dX8_turnsAt_8 : decode cX8_turnsAt 8 = .ok (.aload_n 0, 1) := by decide +kernel
theorem dX8_turnsAt_9 : decode cX8_turnsAt 9 = .ok (.iload_n 2, 1) := by decide +kernel
theorem dX8_turnsAt_10 : decode cX8_turnsAt 10 = .ok (.invokevirtual 218, 3) := by decide +kernel
theorem dX8_turnsAt_13 : decode cX8_turnsAt 13 = .ok (.ifCond .eq 31, 3) := by decide +kernel
theorem dX8_turnsAt_16 : decode cX8_turnsAt 16 = .ok (.iload_n 1, 1) := by decide +kernel
theorem dX8_turnsAt_17 : decode cX8_turnsAt 17 = .ok (.iload_n 2, 1) := by decide +kernel
theorem dX8_turnsAt_18 : decode cX8_turnsAt 18 = .ok (.if_icmp .eq 26, 3) := by decide +kernel
theorem dX8_turnsAt_21 : decode cX8_turnsAt 21 = .ok (.iload_n 3, 1) := by decide +kernel
theorem dX8_turnsAt_22 : decode cX8_turnsAt 22 = .ok (.iconst (-1), 1) := by decide +kernel
theorem dX8_turnsAt_23 : decode cX8_turnsAt 23 = .ok (.if_icmp .eq 24, 3) := by decide +kernel
theorem dX8_turnsAt_26 : decode cX8_turnsAt 26 = .ok (.aload_n 0, 1) := by decide +kernel
theorem dX8_turnsAt_27 : decode cX8_turnsAt 27 = .ok (.iload_n 3, 1) := by decide +kernel
theorem dX8_turnsAt_28 : decode cX8_turnsAt 28 = .ok (.invokevirtual 218, 3) := by decide +kernel
theorem dX8_turnsAt_31 : decode cX8_turnsAt 31 = .ok (.ifCond .eq 13, 3) := by decide +kernel
theorem dX8_turnsAt_34 : decode cX8_turnsAt 34 = .ok (.iload_n 3, 1) := by decide +kernel
theorem dX8_turnsAt_35 : decode cX8_turnsAt 35 = .ok (.iload_n 1, 1) := by decide +kernel
theorem dX8_turnsAt_36 : decode cX8_turnsAt 36 = .ok (.if_icmp .eq 8, 3) := by decide +kernel
theorem dX8_turnsAt_39 : decode cX8_turnsAt 39 = .ok (.iload_n 3, 1) := by decide +kernel
theorem dX8_turnsAt_40 : decode cX8_turnsAt 40 = .ok (.iload_n 2, 1) := by decide +kernel
theorem dX8_turnsAt_41 : decode cX8_turnsAt 41 = .ok (.if_icmp .ne 6, 3) := by decide +kernel
theorem dX8_turnsAt_44 : decode cX8_turnsAt 44 = .ok (.ldc 222, 2) := by decide +kernel
theorem dX8_turnsAt_46 : decode cX8_turnsAt 46 = .ok (.ireturn, 1) := by decide +kernel
theorem dX8_turnsAt_47 : decode cX8_turnsAt 47 = .ok (.iload 4, 2) := by decide +kernel
theorem dX8_turnsAt_49 : decode cX8_turnsAt 49 = .ok (.i2l, 1) := by decide +kernel
theorem dX8_turnsAt_50 : decode cX8_turnsAt 50 = .ok (.lconst 0, 1) := by decide +kernel
theorem dX8_turnsAt_51 : decode cX8_turnsAt 51 = .ok (.ldc2_w 324, 3) := by decide +kernel
theorem dX8_turnsAt_54 : decode cX8_turnsAt 54 = .ok (.invokestatic 102, 3) := by decide +kernel
theorem dX8_turnsAt_57 : decode cX8_turnsAt 57 = .ok (.ifCond .eq 14, 3) := by decide +kernel
theorem dX8_turnsAt_60 : decode cX8_turnsAt 60 = .ok (.iload 5, 2) := by decide +kernel
theorem dX8_turnsAt_62 : decode cX8_turnsAt 62 = .ok (.i2l, 1) := by decide +kernel
theorem dX8_turnsAt_63 : decode cX8_turnsAt 63 = .ok (.lconst 0, 1) := by decide +kernel
theorem dX8_turnsAt_64 : decode cX8_turnsAt 64 = .ok (.lconst 1, 1) := by decide +kernel
theorem dX8_turnsAt_65 : decode cX8_turnsAt 65 = .ok (.invokestatic 102, 3) := by decide +kernel
theorem dX8_turnsAt_68 : decode cX8_turnsAt 68 = .ok (.ifCond .ne 6, 3) := by decide +kernel
theorem dX8_turnsAt_71 : decode cX8_turnsAt 71 = .ok (.ldc 117, 2) := by decide +kernel
theorem dX8_turnsAt_73 : decode cX8_turnsAt 73 = .ok (.ireturn, 1) := by decide +kernel
theorem dX8_turnsAt_74 : decode cX8_turnsAt 74 = .ok (.aload_n 0, 1) := by decide +kernel
theorem dX8_turnsAt_75 : decode cX8_turnsAt 75 = .ok (.iload_n 3, 1) := by decide +kernel
theorem dX8_turnsAt_76 : decode cX8_turnsAt 76 = .ok (.invokevirtual 326, 3) := by decide +kernel
theorem dX8_turnsAt_79 : decode cX8_turnsAt 79 = .ok (.iconst 0, 1) := by decide +kernel
theorem dX8_turnsAt_80 : decode cX8_turnsAt 80 = .ok (.istore 6, 2) := by decide +kernel
theorem dX8_turnsAt_82 : decode cX8_turnsAt 82 = .ok (.iload 6, 2) := by decide +kernel
theorem dX8_turnsAt_84 : decode cX8_turnsAt 84 = .ok (.iload 4, 2) := by decide +kernel
theorem dX8_turnsAt_86 : decode cX8_turnsAt 86 = .ok (.invokestatic 321, 3) := by decide +kernel
theorem dX8_turnsAt_89 : decode cX8_turnsAt 89 = .ok (.if_icmp .ge 26, 3) := by decide +kernel
theorem dX8_turnsAt_92 : decode cX8_turnsAt 92 = .ok (.aload_n 0, 1) := by decide +kernel
theorem dX8_turnsAt_93 : decode cX8_turnsAt 93 = .ok (.getfield 77, 3) := by decide +kernel
theorem dX8_turnsAt_96 : decode cX8_turnsAt 96 = .ok (.iload 6, 2) := by decide +kernel
theorem dX8_turnsAt_98 : decode cX8_turnsAt 98 = .ok (.aload_n 0, 1) := by decide +kernel
theorem dX8_turnsAt_99 : decode cX8_turnsAt 99 = .ok (.iload_n 1, 1) := by decide +kernel
theorem dX8_turnsAt_100 : decode cX8_turnsAt 100 = .ok (.iload_n 2, 1) := by decide +kernel
theorem dX8_turnsAt_101 : decode cX8_turnsAt 101 = .ok (.iload 4, 2) := by decide +kernel
theorem dX8_turnsAt_103 : decode cX8_turnsAt 103 = .ok (.iload 6, 2) := by decide +kernel
theorem dX8_turnsAt_105 : decode cX8_turnsAt 105 = .ok (.invokevirtual 329, 3) := by decide +kernel
theorem dX8_turnsAt_108 : decode cX8_turnsAt 108 = .ok (.iastore, 1) := by decide +kernel
theorem dX8_turnsAt_109 : decode cX8_turnsAt 109 = .ok (.iinc 6 1, 3) := by decide +kernel
theorem dX8_turnsAt_112 : decode cX8_turnsAt 112 = .ok (.goto (-30), 3) := by decide +kernel
theorem dX8_turnsAt_115 : decode cX8_turnsAt 115 = .ok (.iconst 0, 1) := by decide +kernel
theorem dX8_turnsAt_116 : decode cX8_turnsAt 116 = .ok (.istore 6, 2) := by decide +kernel
theorem dX8_turnsAt_118 : decode cX8_turnsAt 118 = .ok (.iload 4, 2) := by decide +kernel
theorem dX8_turnsAt_120 : decode cX8_turnsAt 120 = .ok (.istore 7, 2) := by decide +kernel
theorem dX8_turnsAt_122 : decode cX8_turnsAt 122 = .ok (.iload 7, 2) := by decide +kernel
theorem dX8_turnsAt_124 : decode cX8_turnsAt 124 = .ok (.ifCond .le 189, 3) := by decide +kernel
theorem dX8_turnsAt_127 : decode cX8_turnsAt 127 = .ok (.aload_n 0, 1) := by decide +kernel
theorem dX8_turnsAt_128 : decode cX8_turnsAt 128 = .ok (.iload 7, 2) := by decide +kernel
theorem dX8_turnsAt_130 : decode cX8_turnsAt 130 = .ok (.iconst 2, 1) := by decide +kernel
theorem dX8_turnsAt_131 : decode cX8_turnsAt 131 = .ok (.irem, 1) := by decide +kernel
theorem dX8_turnsAt_132 : decode cX8_turnsAt 132 = .ok (.iconst 1, 1) := by decide +kernel
theorem dX8_turnsAt_133 : decode cX8_turnsAt 133 = .ok (.if_icmp .ne 7, 3) := by decide +kernel
theorem dX8_turnsAt_136 : decode cX8_turnsAt 136 = .ok (.iload_n 1, 1) := by decide +kernel
theorem dX8_turnsAt_137 : decode cX8_turnsAt 137 = .ok (.goto 4, 3) := by decide +kernel
theorem dX8_turnsAt_140 : decode cX8_turnsAt 140 = .ok (.iload_n 2, 1) := by decide +kernel
theorem dX8_turnsAt_141 : decode cX8_turnsAt 141 = .ok (.invokevirtual 212, 3) := by decide +kernel
theorem dX8_turnsAt_144 : decode cX8_turnsAt 144 = .ok (.istore 8, 2) := by decide +kernel
theorem dX8_turnsAt_146 : decode cX8_turnsAt 146 = .ok (.iconst 0, 1) := by decide +kernel
theorem dX8_turnsAt_147 : decode cX8_turnsAt 147 = .ok (.istore 9, 2) := by decide +kernel
theorem dX8_turnsAt_149 : decode cX8_turnsAt 149 = .ok (.iload 9, 2) := by decide +kernel
theorem dX8_turnsAt_151 : decode cX8_turnsAt 151 = .ok (.iload 7, 2) := by decide +kernel
theorem dX8_turnsAt_153 : decode cX8_turnsAt 153 = .ok (.iconst 1, 1) := by decide +kernel
theorem dX8_turnsAt_154 : decode cX8_turnsAt 154 = .ok (.isub, 1) := by decide +kernel
theorem dX8_turnsAt_155 : decode cX8_turnsAt 155 = .ok (.invokestatic 321, 3) := by decide +kernel
theorem dX8_turnsAt_158 : decode cX8_turnsAt 158 = .ok (.if_icmp .ge 149, 3) := by decide +kernel
theorem dX8_turnsAt_161 : decode cX8_turnsAt 161 = .ok (.aload_n 0, 1) := by decide +kernel
theorem dX8_turnsAt_162 : decode cX8_turnsAt 162 = .ok (.getfield 77, 3) := by decide +kernel
theorem dX8_turnsAt_165 : decode cX8_turnsAt 165 = .ok (.iload 9, 2) := by decide +kernel
theorem dX8_turnsAt_167 : decode cX8_turnsAt 167 = .ok (.iaload, 1) := by decide +kernel
theorem dX8_turnsAt_168 : decode cX8_turnsAt 168 = .ok (.istore 10, 2) := by decide +kernel
theorem dX8_turnsAt_170 : decode cX8_turnsAt 170 = .ok (.iconst 0, 1) := by decide +kernel
theorem dX8_turnsAt_171 : decode cX8_turnsAt 171 = .ok (.istore 6, 2) := by decide +kernel
theorem dX8_turnsAt_173 : decode cX8_turnsAt 173 = .ok (.iconst 1, 1) := by decide +kernel
theorem dX8_turnsAt_174 : decode cX8_turnsAt 174 = .ok (.istore 11, 2) := by decide +kernel
theorem dX8_turnsAt_176 : decode cX8_turnsAt 176 = .ok (.iload 11, 2) := by decide +kernel
theorem dX8_turnsAt_178 : decode cX8_turnsAt 178 = .ok (.bipush 9, 2) := by decide +kernel
theorem dX8_turnsAt_180 : decode cX8_turnsAt 180 = .ok (.if_icmp .ge 112, 3) := by decide +kernel
theorem dX8_turnsAt_183 : decode cX8_turnsAt 183 = .ok (.iload 9, 2) := by decide +kernel
theorem dX8_turnsAt_185 : decode cX8_turnsAt 185 = .ok (.iload 11, 2) := by decide +kernel
theorem dX8_turnsAt_187 : decode cX8_turnsAt 187 = .ok (.iload 7, 2) := by decide +kernel
theorem dX8_turnsAt_189 : decode cX8_turnsAt 189 = .ok (.iconst 1, 1) := by decide +kernel
theorem dX8_turnsAt_190 : decode cX8_turnsAt 190 = .ok (.isub, 1) := by decide +kernel
theorem dX8_turnsAt_191 : decode cX8_turnsAt 191 = .ok (.invokestatic 321, 3) := by decide +kernel
theorem dX8_turnsAt_194 : decode cX8_turnsAt 194 = .ok (.imul, 1) := by decide +kernel
theorem dX8_turnsAt_195 : decode cX8_turnsAt 195 = .ok (.iadd, 1) := by decide +kernel
theorem dX8_turnsAt_196 : decode cX8_turnsAt 196 = .ok (.istore 12, 2) := by decide +kernel
theorem dX8_turnsAt_198 : decode cX8_turnsAt 198 = .ok (.aload_n 0, 1) := by decide +kernel
theorem dX8_turnsAt_199 : decode cX8_turnsAt 199 = .ok (.iload 12, 2) := by decide +kernel
theorem dX8_turnsAt_201 : decode cX8_turnsAt 201 = .ok (.iload 7, 2) := by decide +kernel
theorem dX8_turnsAt_203 : decode cX8_turnsAt 203 = .ok (.iload 8, 2) := by decide +kernel
theorem dX8_turnsAt_205 : decode cX8_turnsAt 205 = .ok (.invokevirtual 333, 3) := by decide +kernel
theorem dX8_turnsAt_208 : decode cX8_turnsAt 208 = .ok (.ifCond .eq 42, 3) := by decide +kernel
theorem dX8_turnsAt_211 : decode cX8_turnsAt 211 = .ok (.iload 7, 2) := by decide +kernel
theorem dX8_turnsAt_213 : decode cX8_turnsAt 213 = .ok (.iconst 2, 1) := by decide +kernel
theorem dX8_turnsAt_214 : decode cX8_turnsAt 214 = .ok (.irem, 1) := by decide +kernel
theorem dX8_turnsAt_215 : decode cX8_turnsAt 215 = .ok (.iconst 1, 1) := by decide +kernel
theorem dX8_turnsAt_216 : decode cX8_turnsAt 216 = .ok (.if_icmp .ne 18, 3) := by decide +kernel
theorem dX8_turnsAt_219 : decode cX8_turnsAt 219 = .ok (.aload_n 0, 1) := by decide +kernel
theorem dX8_turnsAt_220 : decode cX8_turnsAt 220 = .ok (.getfield 77, 3) := by decide +kernel
theorem dX8_turnsAt_223 : decode cX8_turnsAt 223 = .ok (.iload 12, 2) := by decide +kernel
theorem dX8_turnsAt_225 : decode cX8_turnsAt 225 = .ok (.iaload, 1) := by decide +kernel
theorem dX8_turnsAt_226 : decode cX8_turnsAt 226 = .ok (.iload 10, 2) := by decide +kernel
theorem dX8_turnsAt_228 : decode cX8_turnsAt 228 = .ok (.if_icmp .le 22, 3) := by decide +kernel
theorem dX8_turnsAt_231 : decode cX8_turnsAt 231 = .ok (.goto 15, 3) := by decide +kernel
theorem dX8_turnsAt_234 : decode cX8_turnsAt 234 = .ok (.aload_n 0, 1) := by decide +kernel
theorem dX8_turnsAt_235 : decode cX8_turnsAt 235 = .ok (.getfield 77, 3) := by decide +kernel
theorem dX8_turnsAt_238 : decode cX8_turnsAt 238 = .ok (.iload 12, 2) := by decide +kernel
theorem dX8_turnsAt_240 : decode cX8_turnsAt 240 = .ok (.iaload, 1) := by decide +kernel
theorem dX8_turnsAt_241 : decode cX8_turnsAt 241 = .ok (.iload 10, 2) := by decide +kernel
theorem dX8_turnsAt_243 : decode cX8_turnsAt 243 = .ok (.if_icmp .ge 7, 3) := by decide +kernel
theorem dX8_turnsAt_246 : decode cX8_turnsAt 246 = .ok (.iconst 1, 1) := by decide +kernel
theorem dX8_turnsAt_247 : decode cX8_turnsAt 247 = .ok (.goto 4, 3) := by decide +kernel
theorem dX8_turnsAt_250 : decode cX8_turnsAt 250 = .ok (.iconst 0, 1) := by decide +kernel
theorem dX8_turnsAt_251 : decode cX8_turnsAt 251 = .ok (.istore 13, 2) := by decide +kernel
theorem dX8_turnsAt_253 : decode cX8_turnsAt 253 = .ok (.iload 13, 2) := by decide +kernel
theorem dX8_turnsAt_255 : decode cX8_turnsAt 255 = .ok (.ifCond .eq 13, 3) := by decide +kernel
theorem dX8_turnsAt_258 : decode cX8_turnsAt 258 = .ok (.aload_n 0, 1) := by decide +kernel
theorem dX8_turnsAt_259 : decode cX8_turnsAt 259 = .ok (.getfield 77, 3) := by decide +kernel
theorem dX8_turnsAt_262 : decode cX8_turnsAt 262 = .ok (.iload 12, 2) := by decide +kernel
theorem dX8_turnsAt_264 : decode cX8_turnsAt 264 = .ok (.iaload, 1) := by decide +kernel
theorem dX8_turnsAt_265 : decode cX8_turnsAt 265 = .ok (.goto 5, 3) := by decide +kernel
theorem dX8_turnsAt_268 : decode cX8_turnsAt 268 = .ok (.iload 10, 2) := by decide +kernel
theorem dX8_turnsAt_270 : decode cX8_turnsAt 270 = .ok (.istore 10, 2) := by decide +kernel
theorem dX8_turnsAt_272 : decode cX8_turnsAt 272 = .ok (.iload 13, 2) := by decide +kernel
theorem dX8_turnsAt_274 : decode cX8_turnsAt 274 = .ok (.ifCond .eq 8, 3) := by decide +kernel
theorem dX8_turnsAt_277 : decode cX8_turnsAt 277 = .ok (.iload 11, 2) := by decide +kernel
theorem dX8_turnsAt_279 : decode cX8_turnsAt 279 = .ok (.goto 5, 3) := by decide +kernel
theorem dX8_turnsAt_282 : decode cX8_turnsAt 282 = .ok (.iload 6, 2) := by decide +kernel
theorem dX8_turnsAt_284 : decode cX8_turnsAt 284 = .ok (.istore 6, 2) := by decide +kernel
theorem dX8_turnsAt_286 : decode cX8_turnsAt 286 = .ok (.iinc 11 1, 3) := by decide +kernel
theorem dX8_turnsAt_289 : decode cX8_turnsAt 289 = .ok (.goto (-113), 3) := by decide +kernel
theorem dX8_turnsAt_292 : decode cX8_turnsAt 292 = .ok (.aload_n 0, 1) := by decide +kernel
theorem dX8_turnsAt_293 : decode cX8_turnsAt 293 = .ok (.getfield 77, 3) := by decide +kernel
theorem dX8_turnsAt_296 : decode cX8_turnsAt 296 = .ok (.iload 9, 2) := by decide +kernel
theorem dX8_turnsAt_298 : decode cX8_turnsAt 298 = .ok (.iload 10, 2) := by decide +kernel
theorem dX8_turnsAt_300 : decode cX8_turnsAt 300 = .ok (.iastore, 1) := by decide +kernel
theorem dX8_turnsAt_301 : decode cX8_turnsAt 301 = .ok (.iinc 9 1, 3) := by decide +kernel
theorem dX8_turnsAt_304 : decode cX8_turnsAt 304 = .ok (.goto (-155), 3) := by decide +kernel
theorem dX8_turnsAt_307 : decode cX8_turnsAt 307 = .ok (.iinc 7 (-1), 3) := by decide +kernel
theorem dX8_turnsAt_310 : decode cX8_turnsAt 310 = .ok (.goto (-188), 3) := by decide +kernel
theorem dX8_turnsAt_313 : decode cX8_turnsAt 313 = .ok (.iload 5, 2) := by decide +kernel
theorem dX8_turnsAt_315 : decode cX8_turnsAt 315 = .ok (.ifCond .ne 12, 3) := by decide +kernel
theorem dX8_turnsAt_318 : decode cX8_turnsAt 318 = .ok (.aload_n 0, 1) := by decide +kernel
theorem dX8_turnsAt_319 : decode cX8_turnsAt 319 = .ok (.getfield 77, 3) := by decide +kernel
theorem dX8_turnsAt_322 : decode cX8_turnsAt 322 = .ok (.iconst 0, 1) := by decide +kernel
theorem dX8_turnsAt_323 : decode cX8_turnsAt 323 = .ok (.iaload, 1) := by decide +kernel
theorem dX8_turnsAt_324 : decode cX8_turnsAt 324 = .ok (.goto 21, 3) := by decide +kernel
theorem dX8_turnsAt_327 : decode cX8_turnsAt 327 = .ok (.iload 6, 2) := by decide +kernel
theorem dX8_turnsAt_329 : decode cX8_turnsAt 329 = .ok (.ifCond .ne 7, 3) := by decide +kernel
theorem dX8_turnsAt_332 : decode cX8_turnsAt 332 = .ok (.iconst (-1), 1) := by decide +kernel
theorem dX8_turnsAt_333 : decode cX8_turnsAt 333 = .ok (.goto 12, 3) := by decide +kernel
theorem dX8_turnsAt_336 : decode cX8_turnsAt 336 = .ok (.aload_n 0, 1) := by decide +kernel
theorem dX8_turnsAt_337 : decode cX8_turnsAt 337 = .ok (.getfield 74, 3) := by decide +kernel
theorem dX8_turnsAt_340 : decode cX8_turnsAt 340 = .ok (.iload 6, 2) := by decide +kernel
theorem dX8_turnsAt_342 : decode cX8_turnsAt 342 = .ok (.iconst 1, 1) := by decide +kernel
theorem dX8_turnsAt_343 : decode cX8_turnsAt 343 = .ok (.isub, 1) := by decide +kernel
theorem dX8_turnsAt_344 : decode cX8_turnsAt 344 = .ok (.iaload, 1) := by decide +kernel
theorem dX8_turnsAt_345 : decode cX8_turnsAt 345 = .ok (.ireturn, 1) := by decide +kernel
theorem dX8_write_0 : decode cX8_write 0 = .ok (.aload_n 0, 1) := by decide +kernel
theorem dX8_write_1 : decode cX8_write 1 = .ok (.iload_n 1, 1) := by decide +kernel
theorem dX8_write_2 : decode cX8_write 2 = .ok (.invokevirtual 218, 3) := by decide +kernel
theorem dX8_write_5 : decode cX8_write 5 = .ok (.ifCond .eq 11, 3) := by decide +kernel
theorem dX8_write_8 : decode cX8_write 8 = .ok (.aload_n 0, 1) := by decide +kernel
theorem dX8_write_9 : decode cX8_write 9 = .ok (.iload_n 2, 1) := by decide +kernel
theorem dX8_write_10 : decode cX8_write 10 = .ok (.invokevirtual 232, 3) := by decide +kernel
theorem dX8_write_13 : decode cX8_write 13 = .ok (.ifCond .ne 6, 3) := by decide +kernel
theorem dX8_write_16 : decode cX8_write 16 = .ok (.ldc 222, 2) := by decide +kernel
theorem dX8_write_18 : decode cX8_write 18 = .ok (.ireturn, 1) := by decide +kernel
theorem dX8_write_19 : decode cX8_write 19 = .ok (.aload_n 0, 1) := by decide +kernel
theorem dX8_write_20 : decode cX8_write 20 = .ok (.getfield 195, 3) := by decide +kernel
theorem dX8_write_23 : decode cX8_write 23 = .ok (.bipush 40, 2) := by decide +kernel
theorem dX8_write_25 : decode cX8_write 25 = .ok (.if_icmp .ne 6, 3) := by decide +kernel
theorem dX8_write_28 : decode cX8_write 28 = .ok (.ldc 121, 2) := by decide +kernel
theorem dX8_write_30 : decode cX8_write 30 = .ok (.ireturn, 1) := by decide +kernel
theorem dX8_write_31 : decode cX8_write 31 = .ok (.aload_n 0, 1) := by decide +kernel
theorem dX8_write_32 : decode cX8_write 32 = .ok (.getfield 80, 3) := by decide +kernel
theorem dX8_write_35 : decode cX8_write 35 = .ok (.aload_n 0, 1) := by decide +kernel
theorem dX8_write_36 : decode cX8_write 36 = .ok (.getfield 195, 3) := by decide +kernel
theorem dX8_write_39 : decode cX8_write 39 = .ok (.iload_n 1, 1) := by decide +kernel
theorem dX8_write_40 : decode cX8_write 40 = .ok (.iastore, 1) := by decide +kernel
theorem dX8_write_41 : decode cX8_write 41 = .ok (.aload_n 0, 1) := by decide +kernel
theorem dX8_write_42 : decode cX8_write 42 = .ok (.getfield 83, 3) := by decide +kernel
theorem dX8_write_45 : decode cX8_write 45 = .ok (.aload_n 0, 1) := by decide +kernel
theorem dX8_write_46 : decode cX8_write 46 = .ok (.getfield 195, 3) := by decide +kernel
theorem dX8_write_49 : decode cX8_write 49 = .ok (.iload_n 2, 1) := by decide +kernel
theorem dX8_write_50 : decode cX8_write 50 = .ok (.iastore, 1) := by decide +kernel
theorem dX8_write_51 : decode cX8_write 51 = .ok (.aload_n 0, 1) := by decide +kernel
theorem dX8_write_52 : decode cX8_write 52 = .ok (.getfield 86, 3) := by decide +kernel
theorem dX8_write_55 : decode cX8_write 55 = .ok (.aload_n 0, 1) := by decide +kernel
theorem dX8_write_56 : decode cX8_write 56 = .ok (.getfield 195, 3) := by decide +kernel
theorem dX8_write_59 : decode cX8_write 59 = .ok (.iload_n 3, 1) := by decide +kernel
theorem dX8_write_60 : decode cX8_write 60 = .ok (.bastore, 1) := by decide +kernel
theorem dX8_write_61 : decode cX8_write 61 = .ok (.aload_n 0, 1) := by decide +kernel
theorem dX8_write_62 : decode cX8_write 62 = .ok (.dup, 1) := by decide +kernel
theorem dX8_write_63 : decode cX8_write 63 = .ok (.getfield 195, 3) := by decide +kernel
theorem dX8_write_66 : decode cX8_write 66 = .ok (.iconst 1, 1) := by decide +kernel
theorem dX8_write_67 : decode cX8_write 67 = .ok (.iadd, 1) := by decide +kernel
theorem dX8_write_68 : decode cX8_write 68 = .ok (.putfield 195, 3) := by decide +kernel
theorem dX8_write_71 : decode cX8_write 71 = .ok (.aload_n 0, 1) := by decide +kernel
theorem dX8_write_72 : decode cX8_write 72 = .ok (.getfield 195, 3) := by decide +kernel
theorem dX8_write_75 : decode cX8_write 75 = .ok (.ireturn, 1) := by decide +kernel
theorem dX8_tear_0 : decode cX8_tear 0 = .ok (.aload_n 0, 1) := by decide +kernel
theorem dX8_tear_1 : decode cX8_tear 1 = .ok (.getfield 195, 3) := by decide +kernel
theorem dX8_tear_4 : decode cX8_tear 4 = .ok (.istore_n 1, 1) := by decide +kernel
theorem dX8_tear_5 : decode cX8_tear 5 = .ok (.aload_n 0, 1) := by decide +kernel
theorem dX8_tear_6 : decode cX8_tear 6 = .ok (.iconst 0, 1) := by decide +kernel
theorem dX8_tear_7 : decode cX8_tear 7 = .ok (.putfield 195, 3) := by decide +kernel
theorem dX8_tear_10 : decode cX8_tear 10 = .ok (.iload_n 1, 1) := by decide +kernel
theorem dX8_tear_11 : decode cX8_tear 11 = .ok (.ireturn, 1) := by decide +kernel
theorem dX8_judge_0 : decode cX8_judge 0 = .ok (.aload_n 0, 1) := by decide +kernel
theorem dX8_judge_1 : decode cX8_judge 1 = .ok (.iconst 2, 1) := by decide +kernel
theorem dX8_judge_2 : decode cX8_judge 2 = .ok (.invokevirtual 281, 3) := by decide +kernel
theorem dX8_judge_5 : decode cX8_judge 5 = .ok (.iconst (-1), 1) := by decide +kernel
theorem dX8_judge_6 : decode cX8_judge 6 = .ok (.istore_n 1, 1) := by decide +kernel
theorem dX8_judge_7 : decode cX8_judge 7 = .ok (.iconst 0, 1) := by decide +kernel
theorem dX8_judge_8 : decode cX8_judge 8 = .ok (.istore_n 2, 1) := by decide +kernel
theorem dX8_judge_9 : decode cX8_judge 9 = .ok (.iload_n 2, 1) := by decide +kernel
theorem dX8_judge_10 : decode cX8_judge 10 = .ok (.aload_n 0, 1) := by decide +kernel
theorem dX8_judge_11 : decode cX8_judge 11 = .ok (.getfield 195, 3) := by decide +kernel
theorem dX8_judge_14 : decode cX8_judge 14 = .ok (.if_icmp .ge 115, 3) := by decide +kernel
theorem dX8_judge_17 : decode cX8_judge 17 = .ok (.iload_n 1, 1) := by decide +kernel
theorem dX8_judge_18 : decode cX8_judge 18 = .ok (.ifCond .ge 111, 3) := by decide +kernel
theorem dX8_judge_21 : decode cX8_judge 21 = .ok (.aload_n 0, 1) := by decide +kernel
theorem dX8_judge_22 : decode cX8_judge 22 = .ok (.getfield 80, 3) := by decide +kernel
theorem dX8_judge_25 : decode cX8_judge 25 = .ok (.iload_n 2, 1) := by decide +kernel
theorem dX8_judge_26 : decode cX8_judge 26 = .ok (.iaload, 1) := by decide +kernel
theorem dX8_judge_27 : decode cX8_judge 27 = .ok (.istore_n 3, 1) := by decide +kernel
theorem dX8_judge_28 : decode cX8_judge 28 = .ok (.aload_n 0, 1) := by decide +kernel
theorem dX8_judge_29 : decode cX8_judge 29 = .ok (.getfield 83, 3) := by decide +kernel
theorem dX8_judge_32 : decode cX8_judge 32 = .ok (.iload_n 2, 1) := by decide +kernel
theorem dX8_judge_33 : decode cX8_judge 33 = .ok (.iaload, 1) := by decide +kernel
theorem dX8_judge_34 : decode cX8_judge 34 = .ok (.istore 4, 2) := by decide +kernel
theorem dX8_judge_36 : decode cX8_judge 36 = .ok (.iload 4, 2) := by decide +kernel
theorem dX8_judge_38 : decode cX8_judge 38 = .ok (.aload_n 0, 1) := by decide +kernel
theorem dX8_judge_39 : decode cX8_judge 39 = .ok (.getfield 106, 3) := by decide +kernel
theorem dX8_judge_42 : decode cX8_judge 42 = .ok (.if_icmp .ge 7, 3) := by decide +kernel
theorem dX8_judge_45 : decode cX8_judge 45 = .ok (.iconst 1, 1) := by decide +kernel
theorem dX8_judge_46 : decode cX8_judge 46 = .ok (.goto 4, 3) := by decide +kernel
theorem dX8_judge_49 : decode cX8_judge 49 = .ok (.iconst 0, 1) := by decide +kernel
theorem dX8_judge_50 : decode cX8_judge 50 = .ok (.istore 5, 2) := by decide +kernel
theorem dX8_judge_52 : decode cX8_judge 52 = .ok (.iload 5, 2) := by decide +kernel
theorem dX8_judge_54 : decode cX8_judge 54 = .ok (.ifCond .eq 32, 3) := by decide +kernel
theorem dX8_judge_57 : decode cX8_judge 57 = .ok (.aload_n 0, 1) := by decide +kernel
theorem dX8_judge_58 : decode cX8_judge 58 = .ok (.getfield 86, 3) := by decide +kernel
theorem dX8_judge_61 : decode cX8_judge 61 = .ok (.iload_n 2, 1) := by decide +kernel
theorem dX8_judge_62 : decode cX8_judge 62 = .ok (.baload, 1) := by decide +kernel
theorem dX8_judge_63 : decode cX8_judge 63 = .ok (.ifCond .eq 23, 3) := by decide +kernel
theorem dX8_judge_66 : decode cX8_judge 66 = .ok (.aload_n 0, 1) := by decide +kernel
theorem dX8_judge_67 : decode cX8_judge 67 = .ok (.iload_n 3, 1) := by decide +kernel
theorem dX8_judge_68 : decode cX8_judge 68 = .ok (.iload 4, 2) := by decide +kernel
theorem dX8_judge_70 : decode cX8_judge 70 = .ok (.invokevirtual 240, 3) := by decide +kernel
theorem dX8_judge_73 : decode cX8_judge 73 = .ok (.ifCond .eq 13, 3) := by decide +kernel
theorem dX8_judge_76 : decode cX8_judge 76 = .ok (.aload_n 0, 1) := by decide +kernel
theorem dX8_judge_77 : decode cX8_judge 77 = .ok (.iload_n 3, 1) := by decide +kernel
theorem dX8_judge_78 : decode cX8_judge 78 = .ok (.iload 4, 2) := by decide +kernel
theorem dX8_judge_80 : decode cX8_judge 80 = .ok (.invokevirtual 243, 3) := by decide +kernel
theorem dX8_judge_83 : decode cX8_judge 83 = .ok (.goto 40, 3) := by decide +kernel
theorem dX8_judge_86 : decode cX8_judge 86 = .ok (.iload 5, 2) := by decide +kernel
theorem dX8_judge_88 : decode cX8_judge 88 = .ok (.ifCond .eq 33, 3) := by decide +kernel
theorem dX8_judge_91 : decode cX8_judge 91 = .ok (.aload_n 0, 1) := by decide +kernel
theorem dX8_judge_92 : decode cX8_judge 92 = .ok (.getfield 86, 3) := by decide +kernel
theorem dX8_judge_95 : decode cX8_judge 95 = .ok (.iload_n 2, 1) := by decide +kernel
theorem dX8_judge_96 : decode cX8_judge 96 = .ok (.baload, 1) := by decide +kernel
theorem dX8_judge_97 : decode cX8_judge 97 = .ok (.ifCond .ne 24, 3) := by decide +kernel
theorem dX8_judge_100 : decode cX8_judge 100 = .ok (.aload_n 0, 1) := by decide +kernel
theorem dX8_judge_101 : decode cX8_judge 101 = .ok (.getfield 25, 3) := by decide +kernel
theorem dX8_judge_104 : decode cX8_judge 104 = .ok (.iload 4, 2) := by decide +kernel
theorem dX8_judge_106 : decode cX8_judge 106 = .ok (.iaload, 1) := by decide +kernel
theorem dX8_judge_107 : decode cX8_judge 107 = .ok (.iload_n 3, 1) := by decide +kernel
theorem dX8_judge_108 : decode cX8_judge 108 = .ok (.if_icmp .ne 13, 3) := by decide +kernel
theorem dX8_judge_111 : decode cX8_judge 111 = .ok (.aload_n 0, 1) := by decide +kernel
theorem dX8_judge_112 : decode cX8_judge 112 = .ok (.iload_n 3, 1) := by decide +kernel
theorem dX8_judge_113 : decode cX8_judge 113 = .ok (.iload 4, 2) := by decide +kernel
theorem dX8_judge_115 : decode cX8_judge 115 = .ok (.invokevirtual 236, 3) := by decide +kernel
theorem dX8_judge_118 : decode cX8_judge 118 = .ok (.goto 5, 3) := by decide +kernel
theorem dX8_judge_121 : decode cX8_judge 121 = .ok (.iload_n 2, 1) := by decide +kernel
theorem dX8_judge_122 : decode cX8_judge 122 = .ok (.istore_n 1, 1) := by decide +kernel
theorem dX8_judge_123 : decode cX8_judge 123 = .ok (.iinc 2 1, 3) := by decide +kernel
theorem dX8_judge_126 : decode cX8_judge 126 = .ok (.goto (-117), 3) := by decide +kernel
theorem dX8_judge_129 : decode cX8_judge 129 = .ok (.aload_n 0, 1) := by decide +kernel
theorem dX8_judge_130 : decode cX8_judge 130 = .ok (.iconst 2, 1) := by decide +kernel
theorem dX8_judge_131 : decode cX8_judge 131 = .ok (.invokevirtual 285, 3) := by decide +kernel
theorem dX8_judge_134 : decode cX8_judge 134 = .ok (.iload_n 1, 1) := by decide +kernel
theorem dX8_judge_135 : decode cX8_judge 135 = .ok (.ireturn, 1) := by decide +kernel
theorem dX8_seed_0 : decode cX8_seed 0 = .ok (.iload_n 1, 1) := by decide +kernel
theorem dX8_seed_1 : decode cX8_seed 1 = .ok (.ifCond .ge 6, 3) := by decide +kernel
theorem dX8_seed_4 : decode cX8_seed 4 = .ok (.ldc 117, 2) := by decide +kernel
theorem dX8_seed_6 : decode cX8_seed 6 = .ok (.ireturn, 1) := by decide +kernel
theorem dX8_seed_7 : decode cX8_seed 7 = .ok (.aload_n 0, 1) := by decide +kernel
theorem dX8_seed_8 : decode cX8_seed 8 = .ok (.getfield 266, 3) := by decide +kernel
theorem dX8_seed_11 : decode cX8_seed 11 = .ok (.istore_n 2, 1) := by decide +kernel
theorem dX8_seed_12 : decode cX8_seed 12 = .ok (.aload_n 0, 1) := by decide +kernel
theorem dX8_seed_13 : decode cX8_seed 13 = .ok (.iload_n 1, 1) := by decide +kernel
theorem dX8_seed_14 : decode cX8_seed 14 = .ok (.putfield 266, 3) := by decide +kernel
theorem dX8_seed_17 : decode cX8_seed 17 = .ok (.iload_n 2, 1) := by decide +kernel
theorem dX8_seed_18 : decode cX8_seed 18 = .ok (.ireturn, 1) := by decide +kernel
theorem dX8_save_0 : decode cX8_save 0 = .ok (.sipush 800, 3) := by decide +kernel
theorem dX8_save_3 : decode cX8_save 3 = .ok (.iload_n 1, 1) := by decide +kernel
theorem dX8_save_4 : decode cX8_save 4 = .ok (.imul, 1) := by decide +kernel
theorem dX8_save_5 : decode cX8_save 5 = .ok (.istore_n 2, 1) := by decide +kernel
theorem dX8_save_6 : decode cX8_save 6 = .ok (.iconst 0, 1) := by decide +kernel
theorem dX8_save_7 : decode cX8_save 7 = .ok (.istore_n 3, 1) := by decide +kernel
theorem dX8_save_8 : decode cX8_save 8 = .ok (.iload_n 3, 1) := by decide +kernel
theorem dX8_save_9 : decode cX8_save 9 = .ok (.bipush 32, 2) := by decide +kernel
theorem dX8_save_11 : decode cX8_save 11 = .ok (.if_icmp .ge 74, 3) := by decide +kernel
theorem dX8_save_14 : decode cX8_save 14 = .ok (.aload_n 0, 1) := by decide +kernel
theorem dX8_save_15 : decode cX8_save 15 = .ok (.getfield 90, 3) := by decide +kernel
theorem dX8_save_18 : decode cX8_save 18 = .ok (.iload_n 2, 1) := by decide +kernel
theorem dX8_save_19 : decode cX8_save 19 = .ok (.iload_n 3, 1) := by decide +kernel
theorem dX8_save_20 : decode cX8_save 20 = .ok (.iadd, 1) := by decide +kernel
theorem dX8_save_21 : decode cX8_save 21 = .ok (.aload_n 0, 1) := by decide +kernel
theorem dX8_save_22 : decode cX8_save 22 = .ok (.getfield 22, 3) := by decide +kernel
theorem dX8_save_25 : decode cX8_save 25 = .ok (.iload_n 3, 1) := by decide +kernel
theorem dX8_save_26 : decode cX8_save 26 = .ok (.iaload, 1) := by decide +kernel
theorem dX8_save_27 : decode cX8_save 27 = .ok (.iastore, 1) := by decide +kernel
theorem dX8_save_28 : decode cX8_save 28 = .ok (.aload_n 0, 1) := by decide +kernel
theorem dX8_save_29 : decode cX8_save 29 = .ok (.getfield 90, 3) := by decide +kernel
theorem dX8_save_32 : decode cX8_save 32 = .ok (.iload_n 2, 1) := by decide +kernel
theorem dX8_save_33 : decode cX8_save 33 = .ok (.bipush 32, 2) := by decide +kernel
theorem dX8_save_35 : decode cX8_save 35 = .ok (.iadd, 1) := by decide +kernel
theorem dX8_save_36 : decode cX8_save 36 = .ok (.iload_n 3, 1) := by decide +kernel
theorem dX8_save_37 : decode cX8_save 37 = .ok (.iadd, 1) := by decide +kernel
theorem dX8_save_38 : decode cX8_save 38 = .ok (.aload_n 0, 1) := by decide +kernel
theorem dX8_save_39 : decode cX8_save 39 = .ok (.getfield 25, 3) := by decide +kernel
theorem dX8_save_42 : decode cX8_save 42 = .ok (.iload_n 3, 1) := by decide +kernel
theorem dX8_save_43 : decode cX8_save 43 = .ok (.iaload, 1) := by decide +kernel
theorem dX8_save_44 : decode cX8_save 44 = .ok (.iastore, 1) := by decide +kernel
theorem dX8_save_45 : decode cX8_save 45 = .ok (.aload_n 0, 1) := by decide +kernel
theorem dX8_save_46 : decode cX8_save 46 = .ok (.getfield 90, 3) := by decide +kernel
theorem dX8_save_49 : decode cX8_save 49 = .ok (.iload_n 2, 1) := by decide +kernel
theorem dX8_save_50 : decode cX8_save 50 = .ok (.bipush 64, 2) := by decide +kernel
theorem dX8_save_52 : decode cX8_save 52 = .ok (.iadd, 1) := by decide +kernel
theorem dX8_save_53 : decode cX8_save 53 = .ok (.iload_n 3, 1) := by decide +kernel
theorem dX8_save_54 : decode cX8_save 54 = .ok (.iadd, 1) := by decide +kernel
theorem dX8_save_55 : decode cX8_save 55 = .ok (.aload_n 0, 1) := by decide +kernel
theorem dX8_save_56 : decode cX8_save 56 = .ok (.getfield 28, 3) := by decide +kernel
theorem dX8_save_59 : decode cX8_save 59 = .ok (.iload_n 3, 1) := by decide +kernel
theorem dX8_save_60 : decode cX8_save 60 = .ok (.iaload, 1) := by decide +kernel
theorem dX8_save_61 : decode cX8_save 61 = .ok (.iastore, 1) := by decide +kernel
theorem dX8_save_62 : decode cX8_save 62 = .ok (.aload_n 0, 1) := by decide +kernel
theorem dX8_save_63 : decode cX8_save 63 = .ok (.getfield 90, 3) := by decide +kernel
theorem dX8_save_66 : decode cX8_save 66 = .ok (.iload_n 2, 1) := by decide +kernel
theorem dX8_save_67 : decode cX8_save 67 = .ok (.bipush 96, 2) := by decide +kernel
theorem dX8_save_69 : decode cX8_save 69 = .ok (.iadd, 1) := by decide +kernel
theorem dX8_save_70 : decode cX8_save 70 = .ok (.iload_n 3, 1) := by decide +kernel
theorem dX8_save_71 : decode cX8_save 71 = .ok (.iadd, 1) := by decide +kernel
theorem dX8_save_72 : decode cX8_save 72 = .ok (.aload_n 0, 1) := by decide +kernel
theorem dX8_save_73 : decode cX8_save 73 = .ok (.getfield 31, 3) := by decide +kernel
theorem dX8_save_76 : decode cX8_save 76 = .ok (.iload_n 3, 1) := by decide +kernel
theorem dX8_save_77 : decode cX8_save 77 = .ok (.iaload, 1) := by decide +kernel
theorem dX8_save_78 : decode cX8_save 78 = .ok (.iastore, 1) := by decide +kernel
theorem dX8_save_79 : decode cX8_save 79 = .ok (.iinc 3 1, 3) := by decide +kernel
theorem dX8_save_82 : decode cX8_save 82 = .ok (.goto (-74), 3) := by decide +kernel
theorem dX8_save_85 : decode cX8_save 85 = .ok (.iconst 0, 1) := by decide +kernel
theorem dX8_save_86 : decode cX8_save 86 = .ok (.istore_n 3, 1) := by decide +kernel
theorem dX8_save_87 : decode cX8_save 87 = .ok (.iload_n 3, 1) := by decide +kernel
theorem dX8_save_88 : decode cX8_save 88 = .ok (.sipush 640, 3) := by decide +kernel
theorem dX8_save_91 : decode cX8_save 91 = .ok (.if_icmp .ge 27, 3) := by decide +kernel
theorem dX8_save_94 : decode cX8_save 94 = .ok (.aload_n 0, 1) := by decide +kernel
theorem dX8_save_95 : decode cX8_save 95 = .ok (.getfield 90, 3) := by decide +kernel
theorem dX8_save_98 : decode cX8_save 98 = .ok (.iload_n 2, 1) := by decide +kernel
theorem dX8_save_99 : decode cX8_save 99 = .ok (.sipush 128, 3) := by decide +kernel
theorem dX8_save_102 : decode cX8_save 102 = .ok (.iadd, 1) := by decide +kernel
theorem dX8_save_103 : decode cX8_save 103 = .ok (.iload_n 3, 1) := by decide +kernel
theorem dX8_save_104 : decode cX8_save 104 = .ok (.iadd, 1) := by decide +kernel
theorem dX8_save_105 : decode cX8_save 105 = .ok (.aload_n 0, 1) := by decide +kernel
theorem dX8_save_106 : decode cX8_save 106 = .ok (.getfield 34, 3) := by decide +kernel
theorem dX8_save_109 : decode cX8_save 109 = .ok (.iload_n 3, 1) := by decide +kernel
theorem dX8_save_110 : decode cX8_save 110 = .ok (.iaload, 1) := by decide +kernel
theorem dX8_save_111 : decode cX8_save 111 = .ok (.iastore, 1) := by decide +kernel
theorem dX8_save_112 : decode cX8_save 112 = .ok (.iinc 3 1, 3) := by decide +kernel
theorem dX8_save_115 : decode cX8_save 115 = .ok (.goto (-28), 3) := by decide +kernel
theorem dX8_save_118 : decode cX8_save 118 = .ok (.aload_n 0, 1) := by decide +kernel
theorem dX8_save_119 : decode cX8_save 119 = .ok (.getfield 90, 3) := by decide +kernel
theorem dX8_save_122 : decode cX8_save 122 = .ok (.iload_n 2, 1) := by decide +kernel
theorem dX8_save_123 : decode cX8_save 123 = .ok (.sipush 768, 3) := by decide +kernel
theorem dX8_save_126 : decode cX8_save 126 = .ok (.iadd, 1) := by decide +kernel
theorem dX8_save_127 : decode cX8_save 127 = .ok (.aload_n 0, 1) := by decide +kernel
theorem dX8_save_128 : decode cX8_save 128 = .ok (.getfield 106, 3) := by decide +kernel
theorem dX8_save_131 : decode cX8_save 131 = .ok (.iastore, 1) := by decide +kernel
theorem dX8_save_132 : decode cX8_save 132 = .ok (.aload_n 0, 1) := by decide +kernel
theorem dX8_save_133 : decode cX8_save 133 = .ok (.getfield 90, 3) := by decide +kernel
theorem dX8_save_136 : decode cX8_save 136 = .ok (.iload_n 2, 1) := by decide +kernel
theorem dX8_save_137 : decode cX8_save 137 = .ok (.sipush 769, 3) := by decide +kernel
theorem dX8_save_140 : decode cX8_save 140 = .ok (.iadd, 1) := by decide +kernel
theorem dX8_save_141 : decode cX8_save 141 = .ok (.aload_n 0, 1) := by decide +kernel
theorem dX8_save_142 : decode cX8_save 142 = .ok (.getfield 109, 3) := by decide +kernel
theorem dX8_save_145 : decode cX8_save 145 = .ok (.iastore, 1) := by decide +kernel
theorem dX8_save_146 : decode cX8_save 146 = .ok (.aload_n 0, 1) := by decide +kernel
theorem dX8_save_147 : decode cX8_save 147 = .ok (.getfield 90, 3) := by decide +kernel
theorem dX8_save_150 : decode cX8_save 150 = .ok (.iload_n 2, 1) := by decide +kernel
theorem dX8_save_151 : decode cX8_save 151 = .ok (.sipush 770, 3) := by decide +kernel
theorem dX8_save_154 : decode cX8_save 154 = .ok (.iadd, 1) := by decide +kernel
theorem dX8_save_155 : decode cX8_save 155 = .ok (.aload_n 0, 1) := by decide +kernel
theorem dX8_save_156 : decode cX8_save 156 = .ok (.getfield 266, 3) := by decide +kernel
theorem dX8_save_159 : decode cX8_save 159 = .ok (.iastore, 1) := by decide +kernel
theorem dX8_save_160 : decode cX8_save 160 = .ok (.return_, 1) := by decide +kernel
theorem dX8_load_0 : decode cX8_load 0 = .ok (.sipush 800, 3) := by decide +kernel
theorem dX8_load_3 : decode cX8_load 3 = .ok (.iload_n 1, 1) := by decide +kernel
theorem dX8_load_4 : decode cX8_load 4 = .ok (.imul, 1) := by decide +kernel
theorem dX8_load_5 : decode cX8_load 5 = .ok (.istore_n 2, 1) := by decide +kernel
theorem dX8_load_6 : decode cX8_load 6 = .ok (.iconst 0, 1) := by decide +kernel
theorem dX8_load_7 : decode cX8_load 7 = .ok (.istore_n 3, 1) := by decide +kernel
theorem dX8_load_8 : decode cX8_load 8 = .ok (.iload_n 3, 1) := by decide +kernel
theorem dX8_load_9 : decode cX8_load 9 = .ok (.bipush 32, 2) := by decide +kernel
theorem dX8_load_11 : decode cX8_load 11 = .ok (.if_icmp .ge 74, 3) := by decide +kernel
theorem dX8_load_14 : decode cX8_load 14 = .ok (.aload_n 0, 1) := by decide +kernel
theorem dX8_load_15 : decode cX8_load 15 = .ok (.getfield 22, 3) := by decide +kernel
theorem dX8_load_18 : decode cX8_load 18 = .ok (.iload_n 3, 1) := by decide +kernel
theorem dX8_load_19 : decode cX8_load 19 = .ok (.aload_n 0, 1) := by decide +kernel
theorem dX8_load_20 : decode cX8_load 20 = .ok (.getfield 90, 3) := by decide +kernel
theorem dX8_load_23 : decode cX8_load 23 = .ok (.iload_n 2, 1) := by decide +kernel
theorem dX8_load_24 : decode cX8_load 24 = .ok (.iload_n 3, 1) := by decide +kernel
theorem dX8_load_25 : decode cX8_load 25 = .ok (.iadd, 1) := by decide +kernel
theorem dX8_load_26 : decode cX8_load 26 = .ok (.iaload, 1) := by decide +kernel
theorem dX8_load_27 : decode cX8_load 27 = .ok (.iastore, 1) := by decide +kernel
theorem dX8_load_28 : decode cX8_load 28 = .ok (.aload_n 0, 1) := by decide +kernel
theorem dX8_load_29 : decode cX8_load 29 = .ok (.getfield 25, 3) := by decide +kernel
theorem dX8_load_32 : decode cX8_load 32 = .ok (.iload_n 3, 1) := by decide +kernel
theorem dX8_load_33 : decode cX8_load 33 = .ok (.aload_n 0, 1) := by decide +kernel
theorem dX8_load_34 : decode cX8_load 34 = .ok (.getfield 90, 3) := by decide +kernel
theorem dX8_load_37 : decode cX8_load 37 = .ok (.iload_n 2, 1) := by decide +kernel
theorem dX8_load_38 : decode cX8_load 38 = .ok (.bipush 32, 2) := by decide +kernel
theorem dX8_load_40 : decode cX8_load 40 = .ok (.iadd, 1) := by decide +kernel
theorem dX8_load_41 : decode cX8_load 41 = .ok (.iload_n 3, 1) := by decide +kernel
theorem dX8_load_42 : decode cX8_load 42 = .ok (.iadd, 1) := by decide +kernel
theorem dX8_load_43 : decode cX8_load 43 = .ok (.iaload, 1) := by decide +kernel
theorem dX8_load_44 : decode cX8_load 44 = .ok (.iastore, 1) := by decide +kernel
theorem dX8_load_45 : decode cX8_load 45 = .ok (.aload_n 0, 1) := by decide +kernel
theorem dX8_load_46 : decode cX8_load 46 = .ok (.getfield 28, 3) := by decide +kernel
theorem dX8_load_49 : decode cX8_load 49 = .ok (.iload_n 3, 1) := by decide +kernel
theorem dX8_load_50 : decode cX8_load 50 = .ok (.aload_n 0, 1) := by decide +kernel
theorem dX8_load_51 : decode cX8_load 51 = .ok (.getfield 90, 3) := by decide +kernel
theorem dX8_load_54 : decode cX8_load 54 = .ok (.iload_n 2, 1) := by decide +kernel
theorem dX8_load_55 : decode cX8_load 55 = .ok (.bipush 64, 2) := by decide +kernel
theorem dX8_load_57 : decode cX8_load 57 = .ok (.iadd, 1) := by decide +kernel
theorem dX8_load_58 : decode cX8_load 58 = .ok (.iload_n 3, 1) := by decide +kernel
theorem dX8_load_59 : decode cX8_load 59 = .ok (.iadd, 1) := by decide +kernel
theorem dX8_load_60 : decode cX8_load 60 = .ok (.iaload, 1) := by decide +kernel
theorem dX8_load_61 : decode cX8_load 61 = .ok (.iastore, 1) := by decide +kernel
theorem dX8_load_62 : decode cX8_load 62 = .ok (.aload_n 0, 1) := by decide +kernel
theorem dX8_load_63 : decode cX8_load 63 = .ok (.getfield 31, 3) := by decide +kernel
theorem dX8_load_66 : decode cX8_load 66 = .ok (.iload_n 3, 1) := by decide +kernel
theorem dX8_load_67 : decode cX8_load 67 = .ok (.aload_n 0, 1) := by decide +kernel
theorem dX8_load_68 : decode cX8_load 68 = .ok (.getfield 90, 3) := by decide +kernel
theorem dX8_load_71 : decode cX8_load 71 = .ok (.iload_n 2, 1) := by decide +kernel
theorem dX8_load_72 : decode cX8_load 72 = .ok (.bipush 96, 2) := by decide +kernel
theorem dX8_load_74 : decode cX8_load 74 = .ok (.iadd, 1) := by decide +kernel
theorem dX8_load_75 : decode cX8_load 75 = .ok (.iload_n 3, 1) := by decide +kernel
theorem dX8_load_76 : decode cX8_load 76 = .ok (.iadd, 1) := by decide +kernel
theorem dX8_load_77 : decode cX8_load 77 = .ok (.iaload, 1) := by decide +kernel
theorem dX8_load_78 : decode cX8_load 78 = .ok (.iastore, 1) := by decide +kernel
theorem dX8_load_79 : decode cX8_load 79 = .ok (.iinc 3 1, 3) := by decide +kernel
theorem dX8_load_82 : decode cX8_load 82 = .ok (.goto (-74), 3) := by decide +kernel
theorem dX8_load_85 : decode cX8_load 85 = .ok (.iconst 0, 1) := by decide +kernel
theorem dX8_load_86 : decode cX8_load 86 = .ok (.istore_n 3, 1) := by decide +kernel
theorem dX8_load_87 : decode cX8_load 87 = .ok (.iload_n 3, 1) := by decide +kernel
theorem dX8_load_88 : decode cX8_load 88 = .ok (.sipush 640, 3) := by decide +kernel
theorem dX8_load_91 : decode cX8_load 91 = .ok (.if_icmp .ge 27, 3) := by decide +kernel
theorem dX8_load_94 : decode cX8_load 94 = .ok (.aload_n 0, 1) := by decide +kernel
theorem dX8_load_95 : decode cX8_load 95 = .ok (.getfield 34, 3) := by decide +kernel
theorem dX8_load_98 : decode cX8_load 98 = .ok (.iload_n 3, 1) := by decide +kernel
theorem dX8_load_99 : decode cX8_load 99 = .ok (.aload_n 0, 1) := by decide +kernel
theorem dX8_load_100 : decode cX8_load 100 = .ok (.getfield 90, 3) := by decide +kernel
theorem dX8_load_103 : decode cX8_load 103 = .ok (.iload_n 2, 1) := by decide +kernel
theorem dX8_load_104 : decode cX8_load 104 = .ok (.sipush 128, 3) := by decide +kernel
theorem dX8_load_107 : decode cX8_load 107 = .ok (.iadd, 1) := by decide +kernel
theorem dX8_load_108 : decode cX8_load 108 = .ok (.iload_n 3, 1) := by decide +kernel
theorem dX8_load_109 : decode cX8_load 109 = .ok (.iadd, 1) := by decide +kernel
theorem dX8_load_110 : decode cX8_load 110 = .ok (.iaload, 1) := by decide +kernel
theorem dX8_load_111 : decode cX8_load 111 = .ok (.iastore, 1) := by decide +kernel
theorem dX8_load_112 : decode cX8_load 112 = .ok (.iinc 3 1, 3) := by decide +kernel
theorem dX8_load_115 : decode cX8_load 115 = .ok (.goto (-28), 3) := by decide +kernel
theorem dX8_load_118 : decode cX8_load 118 = .ok (.aload_n 0, 1) := by decide +kernel
theorem dX8_load_119 : decode cX8_load 119 = .ok (.aload_n 0, 1) := by decide +kernel
theorem dX8_load_120 : decode cX8_load 120 = .ok (.getfield 90, 3) := by decide +kernel
theorem dX8_load_123 : decode cX8_load 123 = .ok (.iload_n 2, 1) := by decide +kernel
theorem dX8_load_124 : decode cX8_load 124 = .ok (.sipush 768, 3) := by decide +kernel
theorem dX8_load_127 : decode cX8_load 127 = .ok (.iadd, 1) := by decide +kernel
theorem dX8_load_128 : decode cX8_load 128 = .ok (.iaload, 1) := by decide +kernel
theorem dX8_load_129 : decode cX8_load 129 = .ok (.putfield 106, 3) := by decide +kernel
theorem dX8_load_132 : decode cX8_load 132 = .ok (.aload_n 0, 1) := by decide +kernel
theorem dX8_load_133 : decode cX8_load 133 = .ok (.aload_n 0, 1) := by decide +kernel
theorem dX8_load_134 : decode cX8_load 134 = .ok (.getfield 90, 3) := by decide +kernel
theorem dX8_load_137 : decode cX8_load 137 = .ok (.iload_n 2, 1) := by decide +kernel
theorem dX8_load_138 : decode cX8_load 138 = .ok (.sipush 769, 3) := by decide +kernel
theorem dX8_load_141 : decode cX8_load 141 = .ok (.iadd, 1) := by decide +kernel
theorem dX8_load_142 : decode cX8_load 142 = .ok (.iaload, 1) := by decide +kernel
theorem dX8_load_143 : decode cX8_load 143 = .ok (.putfield 109, 3) := by decide +kernel
theorem dX8_load_146 : decode cX8_load 146 = .ok (.aload_n 0, 1) := by decide +kernel
theorem dX8_load_147 : decode cX8_load 147 = .ok (.aload_n 0, 1) := by decide +kernel
theorem dX8_load_148 : decode cX8_load 148 = .ok (.getfield 90, 3) := by decide +kernel
theorem dX8_load_151 : decode cX8_load 151 = .ok (.iload_n 2, 1) := by decide +kernel
theorem dX8_load_152 : decode cX8_load 152 = .ok (.sipush 770, 3) := by decide +kernel
theorem dX8_load_155 : decode cX8_load 155 = .ok (.iadd, 1) := by decide +kernel
theorem dX8_load_156 : decode cX8_load 156 = .ok (.iaload, 1) := by decide +kernel
theorem dX8_load_157 : decode cX8_load 157 = .ok (.putfield 266, 3) := by decide +kernel
theorem dX8_load_160 : decode cX8_load 160 = .ok (.return_, 1) := by decide +kernel
theorem dX8_keep_0 : decode cX8_keep 0 = .ok (.iload_n 1, 1) := by decide +kernel
theorem dX8_keep_1 : decode cX8_keep 1 = .ok (.i2l, 1) := by decide +kernel
theorem dX8_keep_2 : decode cX8_keep 2 = .ok (.lconst 0, 1) := by decide +kernel
theorem dX8_keep_3 : decode cX8_keep 3 = .ok (.lconst 1, 1) := by decide +kernel
theorem dX8_keep_4 : decode cX8_keep 4 = .ok (.invokestatic 102, 3) := by decide +kernel
theorem dX8_keep_7 : decode cX8_keep 7 = .ok (.ifCond .ne 6, 3) := by decide +kernel
theorem dX8_keep_10 : decode cX8_keep 10 = .ok (.ldc 222, 2) := by decide +kernel
theorem dX8_keep_12 : decode cX8_keep 12 = .ok (.ireturn, 1) := by decide +kernel
theorem dX8_keep_13 : decode cX8_keep 13 = .ok (.aload_n 0, 1) := by decide +kernel
theorem dX8_keep_14 : decode cX8_keep 14 = .ok (.iload_n 1, 1) := by decide +kernel
theorem dX8_keep_15 : decode cX8_keep 15 = .ok (.invokevirtual 281, 3) := by decide +kernel
theorem dX8_keep_18 : decode cX8_keep 18 = .ok (.aload_n 0, 1) := by decide +kernel
theorem dX8_keep_19 : decode cX8_keep 19 = .ok (.getfield 93, 3) := by decide +kernel
theorem dX8_keep_22 : decode cX8_keep 22 = .ok (.iload_n 1, 1) := by decide +kernel
theorem dX8_keep_23 : decode cX8_keep 23 = .ok (.iconst 1, 1) := by decide +kernel
theorem dX8_keep_24 : decode cX8_keep 24 = .ok (.bastore, 1) := by decide +kernel
theorem dX8_keep_25 : decode cX8_keep 25 = .ok (.iconst 1, 1) := by decide +kernel
theorem dX8_keep_26 : decode cX8_keep 26 = .ok (.ireturn, 1) := by decide +kernel
theorem dX8_goBack_0 : decode cX8_goBack 0 = .ok (.iload_n 1, 1) := by decide +kernel
theorem dX8_goBack_1 : decode cX8_goBack 1 = .ok (.i2l, 1) := by decide +kernel
theorem dX8_goBack_2 : decode cX8_goBack 2 = .ok (.lconst 0, 1) := by decide +kernel
theorem dX8_goBack_3 : decode cX8_goBack 3 = .ok (.lconst 1, 1) := by decide +kernel
theorem dX8_goBack_4 : decode cX8_goBack 4 = .ok (.invokestatic 102, 3) := by decide +kernel
theorem dX8_goBack_7 : decode cX8_goBack 7 = .ok (.ifCond .ne 6, 3) := by decide +kernel
theorem dX8_goBack_10 : decode cX8_goBack 10 = .ok (.ldc 222, 2) := by decide +kernel
theorem dX8_goBack_12 : decode cX8_goBack 12 = .ok (.ireturn, 1) := by decide +kernel
theorem dX8_goBack_13 : decode cX8_goBack 13 = .ok (.aload_n 0, 1) := by decide +kernel
theorem dX8_goBack_14 : decode cX8_goBack 14 = .ok (.getfield 93, 3) := by decide +kernel
theorem dX8_goBack_17 : decode cX8_goBack 17 = .ok (.iload_n 1, 1) := by decide +kernel
theorem dX8_goBack_18 : decode cX8_goBack 18 = .ok (.baload, 1) := by decide +kernel
theorem dX8_goBack_19 : decode cX8_goBack 19 = .ok (.ifCond .ne 6, 3) := by decide +kernel
theorem dX8_goBack_22 : decode cX8_goBack 22 = .ok (.ldc 235, 2) := by decide +kernel
theorem dX8_goBack_24 : decode cX8_goBack 24 = .ok (.ireturn, 1) := by decide +kernel
theorem dX8_goBack_25 : decode cX8_goBack 25 = .ok (.aload_n 0, 1) := by decide +kernel
theorem dX8_goBack_26 : decode cX8_goBack 26 = .ok (.iload_n 1, 1) := by decide +kernel
theorem dX8_goBack_27 : decode cX8_goBack 27 = .ok (.invokevirtual 285, 3) := by decide +kernel
theorem dX8_goBack_30 : decode cX8_goBack 30 = .ok (.iconst 1, 1) := by decide +kernel
theorem dX8_goBack_31 : decode cX8_goBack 31 = .ok (.ireturn, 1) := by decide +kernel
