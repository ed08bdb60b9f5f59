theorem dX9_backRow_24 : decode cX9_backRow 24 = .ok (.aload_n 0, 1) := by decide +kernel
theorem dX9_backRow_25 : decode cX9_backRow 25 = .ok (.getfield 34, 3) := by decide +kernel
theorem dX9_backRow_28 : decode cX9_backRow 28 = .ok (.iconst 4, 1) := by decide +kernel
theorem dX9_backRow_29 : decode cX9_backRow 29 = .ok (.aload_n 0, 1) := by decide +kernel
theorem dX9_backRow_30 : decode cX9_backRow 30 = .ok (.getfield 59, 3) := by decide +kernel
theorem dX9_backRow_33 : decode cX9_backRow 33 = .ok (.iload_n 1, 1) := by decide +kernel
theorem dX9_backRow_34 : decode cX9_backRow 34 = .ok (.iaload, 1) := by decide +kernel
theorem dX9_backRow_35 : decode cX9_backRow 35 = .ok (.iastore, 1) := by decide +kernel
theorem dX9_backRow_36 : decode cX9_backRow 36 = .ok (.iconst 0, 1) := by decide +kernel
theorem dX9_backRow_37 : decode cX9_backRow 37 = .ok (.istore_n 2, 1) := by decide +kernel
theorem dX9_backRow_38 : decode cX9_backRow 38 = .ok (.iload_n 2, 1) := by decide +kernel
theorem dX9_backRow_39 : decode cX9_backRow 39 = .ok (.bipush 12, 2) := by decide +kernel
theorem dX9_backRow_41 : decode cX9_backRow 41 = .ok (.if_icmp .ge 29, 3) := by decide +kernel
theorem dX9_backRow_44 : decode cX9_backRow 44 = .ok (.aload_n 0, 1) := by decide +kernel
theorem dX9_backRow_45 : decode cX9_backRow 45 = .ok (.getfield 37, 3) := by decide +kernel
theorem dX9_backRow_48 : decode cX9_backRow 48 = .ok (.bipush 48, 2) := by decide +kernel
theorem dX9_backRow_50 : decode cX9_backRow 50 = .ok (.iload_n 2, 1) := by decide +kernel
theorem dX9_backRow_51 : decode cX9_backRow 51 = .ok (.iadd, 1) := by decide +kernel
theorem dX9_backRow_52 : decode cX9_backRow 52 = .ok (.aload_n 0, 1) := by decide +kernel
theorem dX9_backRow_53 : decode cX9_backRow 53 = .ok (.getfield 62, 3) := by decide +kernel
theorem dX9_backRow_56 : decode cX9_backRow 56 = .ok (.bipush 12, 2) := by decide +kernel
theorem dX9_backRow_58 : decode cX9_backRow 58 = .ok (.iload_n 1, 1) := by decide +kernel
theorem dX9_backRow_59 : decode cX9_backRow 59 = .ok (.imul, 1) := by decide +kernel
theorem dX9_backRow_60 : decode cX9_backRow 60 = .ok (.iload_n 2, 1) := by decide +kernel
theorem dX9_backRow_61 : decode cX9_backRow 61 = .ok (.iadd, 1) := by decide +kernel
theorem dX9_backRow_62 : decode cX9_backRow 62 = .ok (.iaload, 1) := by decide +kernel
theorem dX9_backRow_63 : decode cX9_backRow 63 = .ok (.iastore, 1) := by decide +kernel
theorem dX9_backRow_64 : decode cX9_backRow 64 = .ok (.iinc 2 1, 3) := by decide +kernel
theorem dX9_backRow_67 : decode cX9_backRow 67 = .ok (.goto (-29), 3) := by decide +kernel
theorem dX9_backRow_70 : decode cX9_backRow 70 = .ok (.return_, 1) := by decide +kernel
theorem dX9_actBy_0 : decode cX9_actBy 0 = .ok (.iload_n 0, 1) := by decide +kernel
theorem dX9_actBy_1 : decode cX9_actBy 1 = .ok (.iconst 3, 1) := by decide +kernel
theorem dX9_actBy_2 : decode cX9_actBy 2 = .ok (.if_icmp .ge 5, 3) := by decide +kernel
theorem dX9_actBy_5 : decode cX9_actBy 5 = .ok (.iload_n 0, 1) := by decide +kernel
theorem dX9_actBy_6 : decode cX9_actBy 6 = .ok (.ireturn, 1) := by decide +kernel
theorem dX9_actBy_7 : decode cX9_actBy 7 = .ok (.iload_n 0, 1) := by decide +kernel
theorem dX9_actBy_8 : decode cX9_actBy 8 = .ok (.bipush 7, 2) := by decide +kernel
theorem dX9_actBy_10 : decode cX9_actBy 10 = .ok (.if_icmp .ge 10, 3) := by decide +kernel
theorem dX9_actBy_13 : decode cX9_actBy 13 = .ok (.bipush 10, 2) := by decide +kernel
theorem dX9_actBy_15 : decode cX9_actBy 15 = .ok (.iload_n 0, 1) := by decide +kernel
theorem dX9_actBy_16 : decode cX9_actBy 16 = .ok (.iadd, 1) := by decide +kernel
theorem dX9_actBy_17 : decode cX9_actBy 17 = .ok (.iconst 3, 1) := by decide +kernel
theorem dX9_actBy_18 : decode cX9_actBy 18 = .ok (.isub, 1) := by decide +kernel
theorem dX9_actBy_19 : decode cX9_actBy 19 = .ok (.ireturn, 1) := by decide +kernel
theorem dX9_actBy_20 : decode cX9_actBy 20 = .ok (.iload_n 1, 1) := by decide +kernel
theorem dX9_actBy_21 : decode cX9_actBy 21 = .ok (.ifCond .eq 19, 3) := by decide +kernel
theorem dX9_actBy_24 : decode cX9_actBy 24 = .ok (.iload_n 0, 1) := by decide +kernel
theorem dX9_actBy_25 : decode cX9_actBy 25 = .ok (.bipush 11, 2) := by decide +kernel
theorem dX9_actBy_27 : decode cX9_actBy 27 = .ok (.if_icmp .ge 13, 3) := by decide +kernel
theorem dX9_actBy_30 : decode cX9_actBy 30 = .ok (.bipush 20, 2) := by decide +kernel
theorem dX9_actBy_32 : decode cX9_actBy 32 = .ok (.iload_n 0, 1) := by decide +kernel
theorem dX9_actBy_33 : decode cX9_actBy 33 = .ok (.iadd, 1) := by decide +kernel
theorem dX9_actBy_34 : decode cX9_actBy 34 = .ok (.bipush 7, 2) := by decide +kernel
theorem dX9_actBy_36 : decode cX9_actBy 36 = .ok (.isub, 1) := by decide +kernel
theorem dX9_actBy_37 : decode cX9_actBy 37 = .ok (.goto 5, 3) := by decide +kernel
theorem dX9_actBy_40 : decode cX9_actBy 40 = .ok (.bipush 9, 2) := by decide +kernel
theorem dX9_actBy_42 : decode cX9_actBy 42 = .ok (.ireturn, 1) := by decide +kernel
theorem dX9_layGain_0 : decode cX9_layGain 0 = .ok (.aload_n 0, 1) := by decide +kernel
theorem dX9_layGain_1 : decode cX9_layGain 1 = .ok (.getfield 171, 3) := by decide +kernel
theorem dX9_layGain_4 : decode cX9_layGain 4 = .ok (.aload_n 0, 1) := by decide +kernel
theorem dX9_layGain_5 : decode cX9_layGain 5 = .ok (.getfield 28, 3) := by decide +kernel
theorem dX9_layGain_8 : decode cX9_layGain 8 = .ok (.iload_n 1, 1) := by decide +kernel
theorem dX9_layGain_9 : decode cX9_layGain 9 = .ok (.iaload, 1) := by decide +kernel
theorem dX9_layGain_10 : decode cX9_layGain 10 = .ok (.iadd, 1) := by decide +kernel
theorem dX9_layGain_11 : decode cX9_layGain 11 = .ok (.istore_n 3, 1) := by decide +kernel
theorem dX9_layGain_12 : decode cX9_layGain 12 = .ok (.iload_n 2, 1) := by decide +kernel
theorem dX9_layGain_13 : decode cX9_layGain 13 = .ok (.aload_n 0, 1) := by decide +kernel
theorem dX9_layGain_14 : decode cX9_layGain 14 = .ok (.getfield 28, 3) := by decide +kernel
theorem dX9_layGain_17 : decode cX9_layGain 17 = .ok (.iload_n 1, 1) := by decide +kernel
theorem dX9_layGain_18 : decode cX9_layGain 18 = .ok (.iaload, 1) := by decide +kernel
theorem dX9_layGain_19 : decode cX9_layGain 19 = .ok (.isub, 1) := by decide +kernel
theorem dX9_layGain_20 : decode cX9_layGain 20 = .ok (.istore 4, 2) := by decide +kernel
theorem dX9_layGain_22 : decode cX9_layGain 22 = .ok (.aload_n 0, 1) := by decide +kernel
theorem dX9_layGain_23 : decode cX9_layGain 23 = .ok (.iconst (-1), 1) := by decide +kernel
theorem dX9_layGain_24 : decode cX9_layGain 24 = .ok (.putfield 228, 3) := by decide +kernel
theorem dX9_layGain_27 : decode cX9_layGain 27 = .ok (.aload_n 0, 1) := by decide +kernel
theorem dX9_layGain_28 : decode cX9_layGain 28 = .ok (.bipush 9, 2) := by decide +kernel
theorem dX9_layGain_30 : decode cX9_layGain 30 = .ok (.putfield 231, 3) := by decide +kernel
theorem dX9_layGain_33 : decode cX9_layGain 33 = .ok (.iload 4, 2) := by decide +kernel
theorem dX9_layGain_35 : decode cX9_layGain 35 = .ok (.iconst 1, 1) := by decide +kernel
theorem dX9_layGain_36 : decode cX9_layGain 36 = .ok (.if_icmp .ge 9, 3) := by decide +kernel
theorem dX9_layGain_39 : decode cX9_layGain 39 = .ok (.aload_n 0, 1) := by decide +kernel
theorem dX9_layGain_40 : decode cX9_layGain 40 = .ok (.iconst 0, 1) := by decide +kernel
theorem dX9_layGain_41 : decode cX9_layGain 41 = .ok (.putfield 228, 3) := by decide +kernel
theorem dX9_layGain_44 : decode cX9_layGain 44 = .ok (.return_, 1) := by decide +kernel
theorem dX9_layGain_45 : decode cX9_layGain 45 = .ok (.aload_n 0, 1) := by decide +kernel
theorem dX9_layGain_46 : decode cX9_layGain 46 = .ok (.iload_n 1, 1) := by decide +kernel
theorem dX9_layGain_47 : decode cX9_layGain 47 = .ok (.iconst 4, 1) := by decide +kernel
theorem dX9_layGain_48 : decode cX9_layGain 48 = .ok (.invokevirtual 234, 3) := by decide +kernel
theorem dX9_layGain_51 : decode cX9_layGain 51 = .ok (.aload_n 0, 1) := by decide +kernel
theorem dX9_layGain_52 : decode cX9_layGain 52 = .ok (.iconst 4, 1) := by decide +kernel
theorem dX9_layGain_53 : decode cX9_layGain 53 = .ok (.iload_n 3, 1) := by decide +kernel
theorem dX9_layGain_54 : decode cX9_layGain 54 = .ok (.invokevirtual 174, 3) := by decide +kernel
theorem dX9_layGain_57 : decode cX9_layGain 57 = .ok (.aload_n 0, 1) := by decide +kernel
theorem dX9_layGain_58 : decode cX9_layGain 58 = .ok (.getfield 22, 3) := by decide +kernel
theorem dX9_layGain_61 : decode cX9_layGain 61 = .ok (.iconst 4, 1) := by decide +kernel
theorem dX9_layGain_62 : decode cX9_layGain 62 = .ok (.iaload, 1) := by decide +kernel
theorem dX9_layGain_63 : decode cX9_layGain 63 = .ok (.istore 5, 2) := by decide +kernel
theorem dX9_layGain_65 : decode cX9_layGain 65 = .ok (.aload_n 0, 1) := by decide +kernel
theorem dX9_layGain_66 : decode cX9_layGain 66 = .ok (.iconst 0, 1) := by decide +kernel
theorem dX9_layGain_67 : decode cX9_layGain 67 = .ok (.invokevirtual 237, 3) := by decide +kernel
theorem dX9_layGain_70 : decode cX9_layGain 70 = .ok (.iconst 0, 1) := by decide +kernel
theorem dX9_layGain_71 : decode cX9_layGain 71 = .ok (.istore 6, 2) := by decide +kernel
theorem dX9_layGain_73 : decode cX9_layGain 73 = .ok (.iload 6, 2) := by decide +kernel
theorem dX9_layGain_75 : decode cX9_layGain 75 = .ok (.ifCond .lt 136, 3) := by decide +kernel
theorem dX9_layGain_78 : decode cX9_layGain 78 = .ok (.iload 6, 2) := by decide +kernel
theorem dX9_layGain_80 : decode cX9_layGain 80 = .ok (.iload 4, 2) := by decide +kernel
theorem dX9_layGain_82 : decode cX9_layGain 82 = .ok (.if_icmp .ne 84, 3) := by decide +kernel
theorem dX9_layGain_85 : decode cX9_layGain 85 = .ok (.aload_n 0, 1) := by decide +kernel
theorem dX9_layGain_86 : decode cX9_layGain 86 = .ok (.aload_n 0, 1) := by decide +kernel
theorem dX9_layGain_87 : decode cX9_layGain 87 = .ok (.getfield 22, 3) := by decide +kernel
theorem dX9_layGain_90 : decode cX9_layGain 90 = .ok (.iconst 4, 1) := by decide +kernel
theorem dX9_layGain_91 : decode cX9_layGain 91 = .ok (.iaload, 1) := by decide +kernel
theorem dX9_layGain_92 : decode cX9_layGain 92 = .ok (.iload 5, 2) := by decide +kernel
theorem dX9_layGain_94 : decode cX9_layGain 94 = .ok (.isub, 1) := by decide +kernel
theorem dX9_layGain_95 : decode cX9_layGain 95 = .ok (.aload_n 0, 1) := by decide +kernel
theorem dX9_layGain_96 : decode cX9_layGain 96 = .ok (.getfield 228, 3) := by decide +kernel
theorem dX9_layGain_99 : decode cX9_layGain 99 = .ok (.if_icmp .le 18, 3) := by decide +kernel
theorem dX9_layGain_102 : decode cX9_layGain 102 = .ok (.aload_n 0, 1) := by decide +kernel
theorem dX9_layGain_103 : decode cX9_layGain 103 = .ok (.getfield 65, 3) := by decide +kernel
theorem dX9_layGain_106 : decode cX9_layGain 106 = .ok (.iconst 0, 1) := by decide +kernel
theorem dX9_layGain_107 : decode cX9_layGain 107 = .ok (.iaload, 1) := by decide +kernel
theorem dX9_layGain_108 : decode cX9_layGain 108 = .ok (.iconst 1, 1) := by decide +kernel
theorem dX9_layGain_109 : decode cX9_layGain 109 = .ok (.isub, 1) := by decide +kernel
theorem dX9_layGain_110 : decode cX9_layGain 110 = .ok (.iconst 0, 1) := by decide +kernel
theorem dX9_layGain_111 : decode cX9_layGain 111 = .ok (.invokestatic 241, 3) := by decide +kernel
theorem dX9_layGain_114 : decode cX9_layGain 114 = .ok (.goto 7, 3) := by decide +kernel
theorem dX9_layGain_117 : decode cX9_layGain 117 = .ok (.aload_n 0, 1) := by decide +kernel
theorem dX9_layGain_118 : decode cX9_layGain 118 = .ok (.getfield 231, 3) := by decide +kernel
theorem dX9_layGain_121 : decode cX9_layGain 121 = .ok (.putfield 231, 3) := by decide +kernel
theorem dX9_layGain_124 : decode cX9_layGain 124 = .ok (.aload_n 0, 1) := by decide +kernel
theorem dX9_layGain_125 : decode cX9_layGain 125 = .ok (.aload_n 0, 1) := by decide +kernel
theorem dX9_layGain_126 : decode cX9_layGain 126 = .ok (.getfield 22, 3) := by decide +kernel
theorem dX9_layGain_129 : decode cX9_layGain 129 = .ok (.iconst 4, 1) := by decide +kernel
theorem dX9_layGain_130 : decode cX9_layGain 130 = .ok (.iaload, 1) := by decide +kernel
theorem dX9_layGain_131 : decode cX9_layGain 131 = .ok (.iload 5, 2) := by decide +kernel
theorem dX9_layGain_133 : decode cX9_layGain 133 = .ok (.isub, 1) := by decide +kernel
theorem dX9_layGain_134 : decode cX9_layGain 134 = .ok (.aload_n 0, 1) := by decide +kernel
theorem dX9_layGain_135 : decode cX9_layGain 135 = .ok (.getfield 228, 3) := by decide +kernel
theorem dX9_layGain_138 : decode cX9_layGain 138 = .ok (.if_icmp .le 15, 3) := by decide +kernel
theorem dX9_layGain_141 : decode cX9_layGain 141 = .ok (.aload_n 0, 1) := by decide +kernel
theorem dX9_layGain_142 : decode cX9_layGain 142 = .ok (.getfield 22, 3) := by decide +kernel
theorem dX9_layGain_145 : decode cX9_layGain 145 = .ok (.iconst 4, 1) := by decide +kernel
theorem dX9_layGain_146 : decode cX9_layGain 146 = .ok (.iaload, 1) := by decide +kernel
theorem dX9_layGain_147 : decode cX9_layGain 147 = .ok (.iload 5, 2) := by decide +kernel
theorem dX9_layGain_149 : decode cX9_layGain 149 = .ok (.isub, 1) := by decide +kernel
theorem dX9_layGain_150 : decode cX9_layGain 150 = .ok (.goto 7, 3) := by decide +kernel
theorem dX9_layGain_153 : decode cX9_layGain 153 = .ok (.aload_n 0, 1) := by decide +kernel
theorem dX9_layGain_154 : decode cX9_layGain 154 = .ok (.getfield 228, 3) := by decide +kernel
theorem dX9_layGain_157 : decode cX9_layGain 157 = .ok (.putfield 228, 3) := by decide +kernel
theorem dX9_layGain_160 : decode cX9_layGain 160 = .ok (.iinc 6 (-1), 3) := by decide +kernel
theorem dX9_layGain_163 : decode cX9_layGain 163 = .ok (.goto (-90), 3) := by decide +kernel
theorem dX9_layGain_166 : decode cX9_layGain 166 = .ok (.aload_n 0, 1) := by decide +kernel
theorem dX9_layGain_167 : decode cX9_layGain 167 = .ok (.getfield 65, 3) := by decide +kernel
theorem dX9_layGain_170 : decode cX9_layGain 170 = .ok (.iload 6, 2) := by decide +kernel
theorem dX9_layGain_172 : decode cX9_layGain 172 = .ok (.iaload, 1) := by decide +kernel
theorem dX9_layGain_173 : decode cX9_layGain 173 = .ok (.bipush 8, 2) := by decide +kernel
theorem dX9_layGain_175 : decode cX9_layGain 175 = .ok (.if_icmp .ne 9, 3) := by decide +kernel
theorem dX9_layGain_178 : decode cX9_layGain 178 = .ok (.iinc 6 (-1), 3) := by decide +kernel
theorem dX9_layGain_181 : decode cX9_layGain 181 = .ok (.goto (-108), 3) := by decide +kernel
theorem dX9_layGain_184 : decode cX9_layGain 184 = .ok (.iload 6, 2) := by decide +kernel
theorem dX9_layGain_186 : decode cX9_layGain 186 = .ok (.aload_n 0, 1) := by decide +kernel
theorem dX9_layGain_187 : decode cX9_layGain 187 = .ok (.iload 6, 2) := by decide +kernel
theorem dX9_layGain_189 : decode cX9_layGain 189 = .ok (.iload_n 3, 1) := by decide +kernel
theorem dX9_layGain_190 : decode cX9_layGain 190 = .ok (.iload 6, 2) := by decide +kernel
theorem dX9_layGain_192 : decode cX9_layGain 192 = .ok (.iadd, 1) := by decide +kernel
theorem dX9_layGain_193 : decode cX9_layGain 193 = .ok (.iconst 0, 1) := by decide +kernel
theorem dX9_layGain_194 : decode cX9_layGain 194 = .ok (.invokevirtual 245, 3) := by decide +kernel
theorem dX9_layGain_197 : decode cX9_layGain 197 = .ok (.ifCond .eq 7, 3) := by decide +kernel
theorem dX9_layGain_200 : decode cX9_layGain 200 = .ok (.iconst 1, 1) := by decide +kernel
theorem dX9_layGain_201 : decode cX9_layGain 201 = .ok (.goto 4, 3) := by decide +kernel
theorem dX9_layGain_204 : decode cX9_layGain 204 = .ok (.iconst 0, 1) := by decide +kernel
theorem dX9_layGain_205 : decode cX9_layGain 205 = .ok (.iadd, 1) := by decide +kernel
theorem dX9_layGain_206 : decode cX9_layGain 206 = .ok (.istore 6, 2) := by decide +kernel
theorem dX9_layGain_208 : decode cX9_layGain 208 = .ok (.goto (-135), 3) := by decide +kernel
theorem dX9_layGain_211 : decode cX9_layGain 211 = .ok (.return_, 1) := by decide +kernel
theorem dX9_goRow_0 : decode cX9_goRow 0 = .ok (.aload_n 0, 1) := by decide +kernel
theorem dX9_goRow_1 : decode cX9_goRow 1 = .ok (.getfield 65, 3) := by decide +kernel
theorem dX9_goRow_4 : decode cX9_goRow 4 = .ok (.iload_n 1, 1) := by decide +kernel
theorem dX9_goRow_5 : decode cX9_goRow 5 = .ok (.iaload, 1) := by decide +kernel
theorem dX9_goRow_6 : decode cX9_goRow 6 = .ok (.iload_n 3, 1) := by decide +kernel
theorem dX9_goRow_7 : decode cX9_goRow 7 = .ok (.invokestatic 241, 3) := by decide +kernel
theorem dX9_goRow_10 : decode cX9_goRow 10 = .ok (.istore 4, 2) := by decide +kernel
theorem dX9_goRow_12 : decode cX9_goRow 12 = .ok (.aload_n 0, 1) := by decide +kernel
theorem dX9_goRow_13 : decode cX9_goRow 13 = .ok (.getfield 65, 3) := by decide +kernel
theorem dX9_goRow_16 : decode cX9_goRow 16 = .ok (.iload_n 1, 1) := by decide +kernel
theorem dX9_goRow_17 : decode cX9_goRow 17 = .ok (.dup2, 1) := by decide +kernel
theorem dX9_goRow_18 : decode cX9_goRow 18 = .ok (.iaload, 1) := by decide +kernel
theorem dX9_goRow_19 : decode cX9_goRow 19 = .ok (.iconst 1, 1) := by decide +kernel
theorem dX9_goRow_20 : decode cX9_goRow 20 = .ok (.iadd, 1) := by decide +kernel
theorem dX9_goRow_21 : decode cX9_goRow 21 = .ok (.iastore, 1) := by decide +kernel
theorem dX9_goRow_22 : decode cX9_goRow 22 = .ok (.aload_n 0, 1) := by decide +kernel
theorem dX9_goRow_23 : decode cX9_goRow 23 = .ok (.iload_n 1, 1) := by decide +kernel
theorem dX9_goRow_24 : decode cX9_goRow 24 = .ok (.invokevirtual 249, 3) := by decide +kernel
theorem dX9_goRow_27 : decode cX9_goRow 27 = .ok (.aload_n 0, 1) := by decide +kernel
theorem dX9_goRow_28 : decode cX9_goRow 28 = .ok (.iconst 4, 1) := by decide +kernel
theorem dX9_goRow_29 : decode cX9_goRow 29 = .ok (.iload 4, 2) := by decide +kernel
theorem dX9_goRow_31 : decode cX9_goRow 31 = .ok (.invokevirtual 206, 3) := by decide +kernel
theorem dX9_goRow_34 : decode cX9_goRow 34 = .ok (.ifCond .ne 5, 3) := by decide +kernel
theorem dX9_goRow_37 : decode cX9_goRow 37 = .ok (.iconst 0, 1) := by decide +kernel
theorem dX9_goRow_38 : decode cX9_goRow 38 = .ok (.ireturn, 1) := by decide +kernel
theorem dX9_goRow_39 : decode cX9_goRow 39 = .ok (.aload_n 0, 1) := by decide +kernel
theorem dX9_goRow_40 : decode cX9_goRow 40 = .ok (.iconst 4, 1) := by decide +kernel
theorem dX9_goRow_41 : decode cX9_goRow 41 = .ok (.iload 4, 2) := by decide +kernel
theorem dX9_goRow_43 : decode cX9_goRow 43 = .ok (.iload_n 2, 1) := by decide +kernel
theorem dX9_goRow_44 : decode cX9_goRow 44 = .ok (.invokevirtual 218, 3) := by decide +kernel
theorem dX9_goRow_47 : decode cX9_goRow 47 = .ok (.aload_n 0, 1) := by decide +kernel
theorem dX9_goRow_48 : decode cX9_goRow 48 = .ok (.iconst 4, 1) := by decide +kernel
theorem dX9_goRow_49 : decode cX9_goRow 49 = .ok (.iload_n 2, 1) := by decide +kernel
theorem dX9_goRow_50 : decode cX9_goRow 50 = .ok (.iconst 1, 1) := by decide +kernel
theorem dX9_goRow_51 : decode cX9_goRow 51 = .ok (.iadd, 1) := by decide +kernel
theorem dX9_goRow_52 : decode cX9_goRow 52 = .ok (.invokevirtual 174, 3) := by decide +kernel
theorem dX9_goRow_55 : decode cX9_goRow 55 = .ok (.aload_n 0, 1) := by decide +kernel
theorem dX9_goRow_56 : decode cX9_goRow 56 = .ok (.iload_n 1, 1) := by decide +kernel
theorem dX9_goRow_57 : decode cX9_goRow 57 = .ok (.iconst 1, 1) := by decide +kernel
theorem dX9_goRow_58 : decode cX9_goRow 58 = .ok (.iadd, 1) := by decide +kernel
theorem dX9_goRow_59 : decode cX9_goRow 59 = .ok (.invokevirtual 237, 3) := by decide +kernel
theorem dX9_goRow_62 : decode cX9_goRow 62 = .ok (.iconst 1, 1) := by decide +kernel
theorem dX9_goRow_63 : decode cX9_goRow 63 = .ok (.ireturn, 1) := by decide +kernel
theorem dX9_gain_0 : decode cX9_gain 0 = .ok (.aload_n 0, 1) := by decide +kernel
theorem dX9_gain_1 : decode cX9_gain 1 = .ok (.iload_n 1, 1) := by decide +kernel
theorem dX9_gain_2 : decode cX9_gain 2 = .ok (.invokevirtual 209, 3) := by decide +kernel
theorem dX9_gain_5 : decode cX9_gain 5 = .ok (.ifCond .ne 6, 3) := by decide +kernel
theorem dX9_gain_8 : decode cX9_gain 8 = .ok (.bipush (-101), 2) := by decide +kernel
theorem dX9_gain_10 : decode cX9_gain 10 = .ok (.ireturn, 1) := by decide +kernel
theorem dX9_gain_11 : decode cX9_gain 11 = .ok (.iload_n 2, 1) := by decide +kernel
theorem dX9_gain_12 : decode cX9_gain 12 = .ok (.iconst 0, 1) := by decide +kernel
theorem dX9_gain_13 : decode cX9_gain 13 = .ok (.bipush 6, 2) := by decide +kernel
theorem dX9_gain_15 : decode cX9_gain 15 = .ok (.invokestatic 111, 3) := by decide +kernel
theorem dX9_gain_18 : decode cX9_gain 18 = .ok (.ifCond .eq 12, 3) := by decide +kernel
theorem dX9_gain_21 : decode cX9_gain 21 = .ok (.iload_n 3, 1) := by decide +kernel
theorem dX9_gain_22 : decode cX9_gain 22 = .ok (.iconst 0, 1) := by decide +kernel
theorem dX9_gain_23 : decode cX9_gain 23 = .ok (.iconst 1, 1) := by decide +kernel
theorem dX9_gain_24 : decode cX9_gain 24 = .ok (.invokestatic 111, 3) := by decide +kernel
theorem dX9_gain_27 : decode cX9_gain 27 = .ok (.ifCond .ne 6, 3) := by decide +kernel
theorem dX9_gain_30 : decode cX9_gain 30 = .ok (.bipush (-102), 2) := by decide +kernel
theorem dX9_gain_32 : decode cX9_gain 32 = .ok (.ireturn, 1) := by decide +kernel
theorem dX9_gain_33 : decode cX9_gain 33 = .ok (.aload_n 0, 1) := by decide +kernel
theorem dX9_gain_34 : decode cX9_gain 34 = .ok (.getfield 252, 3) := by decide +kernel
theorem dX9_gain_37 : decode cX9_gain 37 = .ok (.bipush 60, 2) := by decide +kernel
theorem dX9_gain_39 : decode cX9_gain 39 = .ok (.if_icmp .ne 6, 3) := by decide +kernel
theorem dX9_gain_42 : decode cX9_gain 42 = .ok (.bipush (-103), 2) := by decide +kernel
theorem dX9_gain_44 : decode cX9_gain 44 = .ok (.ireturn, 1) := by decide +kernel
theorem dX9_gain_45 : decode cX9_gain 45 = .ok (.aload_n 0, 1) := by decide +kernel
theorem dX9_gain_46 : decode cX9_gain 46 = .ok (.dup, 1) := by decide +kernel
theorem dX9_gain_47 : decode cX9_gain 47 = .ok (.getfield 252, 3) := by decide +kernel
theorem dX9_gain_50 : decode cX9_gain 50 = .ok (.iconst 1, 1) := by decide +kernel
theorem dX9_gain_51 : decode cX9_gain 51 = .ok (.iadd, 1) := by decide +kernel
theorem dX9_gain_52 : decode cX9_gain 52 = .ok (.putfield 252, 3) := by decide +kernel
theorem dX9_gain_55 : decode cX9_gain 55 = .ok (.aload_n 0, 1) := by decide +kernel
theorem dX9_gain_56 : decode cX9_gain 56 = .ok (.iload_n 1, 1) := by decide +kernel
theorem dX9_gain_57 : decode cX9_gain 57 = .ok (.iload_n 2, 1) := by decide +kernel
theorem dX9_gain_58 : decode cX9_gain 58 = .ok (.invokevirtual 255, 3) := by decide +kernel
theorem dX9_gain_61 : decode cX9_gain 61 = .ok (.iload_n 3, 1) := by decide +kernel
theorem dX9_gain_62 : decode cX9_gain 62 = .ok (.ifCond .ne 10, 3) := by decide +kernel
theorem dX9_gain_65 : decode cX9_gain 65 = .ok (.aload_n 0, 1) := by decide +kernel
theorem dX9_gain_66 : decode cX9_gain 66 = .ok (.getfield 228, 3) := by decide +kernel
theorem dX9_gain_69 : decode cX9_gain 69 = .ok (.goto 7, 3) := by decide +kernel
theorem dX9_gain_72 : decode cX9_gain 72 = .ok (.aload_n 0, 1) := by decide +kernel
theorem dX9_gain_73 : decode cX9_gain 73 = .ok (.getfield 231, 3) := by decide +kernel
theorem dX9_gain_76 : decode cX9_gain 76 = .ok (.ireturn, 1) := by decide +kernel
theorem dX9_soonBy_0 : decode cX9_soonBy 0 = .ok (.aload_n 0, 1) := by decide +kernel
theorem dX9_soonBy_1 : decode cX9_soonBy 1 = .ok (.getfield 171, 3) := by decide +kernel
theorem dX9_soonBy_4 : decode cX9_soonBy 4 = .ok (.aload_n 0, 1) := by decide +kernel
theorem dX9_soonBy_5 : decode cX9_soonBy 5 = .ok (.getfield 28, 3) := by decide +kernel
theorem dX9_soonBy_8 : decode cX9_soonBy 8 = .ok (.iload_n 1, 1) := by decide +kernel
theorem dX9_soonBy_9 : decode cX9_soonBy 9 = .ok (.iaload, 1) := by decide +kernel
theorem dX9_soonBy_10 : decode cX9_soonBy 10 = .ok (.iadd, 1) := by decide +kernel
theorem dX9_soonBy_11 : decode cX9_soonBy 11 = .ok (.istore 4, 2) := by decide +kernel
theorem dX9_soonBy_13 : decode cX9_soonBy 13 = .ok (.aload_n 0, 1) := by decide +kernel
theorem dX9_soonBy_14 : decode cX9_soonBy 14 = .ok (.iload_n 1, 1) := by decide +kernel
theorem dX9_soonBy_15 : decode cX9_soonBy 15 = .ok (.iconst 4, 1) := by decide +kernel
theorem dX9_soonBy_16 : decode cX9_soonBy 16 = .ok (.invokevirtual 234, 3) := by decide +kernel
theorem dX9_soonBy_19 : decode cX9_soonBy 19 = .ok (.aload_n 0, 1) := by decide +kernel
theorem dX9_soonBy_20 : decode cX9_soonBy 20 = .ok (.iconst 4, 1) := by decide +kernel
theorem dX9_soonBy_21 : decode cX9_soonBy 21 = .ok (.iload 4, 2) := by decide +kernel
theorem dX9_soonBy_23 : decode cX9_soonBy 23 = .ok (.invokevirtual 174, 3) := by decide +kernel
theorem dX9_soonBy_26 : decode cX9_soonBy 26 = .ok (.iconst 0, 1) := by decide +kernel
theorem dX9_soonBy_27 : decode cX9_soonBy 27 = .ok (.istore 5, 2) := by decide +kernel
theorem dX9_soonBy_29 : decode cX9_soonBy 29 = .ok (.iload 5, 2) := by decide +kernel
theorem dX9_soonBy_31 : decode cX9_soonBy 31 = .ok (.bipush 9, 2) := by decide +kernel
theorem dX9_soonBy_33 : decode cX9_soonBy 33 = .ok (.if_icmp .gt 47, 3) := by decide +kernel
theorem dX9_soonBy_36 : decode cX9_soonBy 36 = .ok (.aload_n 0, 1) := by decide +kernel
theorem dX9_soonBy_37 : decode cX9_soonBy 37 = .ok (.iconst 4, 1) := by decide +kernel
theorem dX9_soonBy_38 : decode cX9_soonBy 38 = .ok (.bipush 10, 2) := by decide +kernel
theorem dX9_soonBy_40 : decode cX9_soonBy 40 = .ok (.iload_n 2, 1) := by decide +kernel
theorem dX9_soonBy_41 : decode cX9_soonBy 41 = .ok (.iadd, 1) := by decide +kernel
theorem dX9_soonBy_42 : decode cX9_soonBy 42 = .ok (.invokevirtual 206, 3) := by decide +kernel
theorem dX9_soonBy_45 : decode cX9_soonBy 45 = .ok (.ifCond .eq 6, 3) := by decide +kernel
theorem dX9_soonBy_48 : decode cX9_soonBy 48 = .ok (.iload 5, 2) := by decide +kernel
theorem dX9_soonBy_50 : decode cX9_soonBy 50 = .ok (.ireturn, 1) := by decide +kernel
theorem dX9_soonBy_51 : decode cX9_soonBy 51 = .ok (.aload_n 0, 1) := by decide +kernel
theorem dX9_soonBy_52 : decode cX9_soonBy 52 = .ok (.iconst 4, 1) := by decide +kernel
theorem dX9_soonBy_53 : decode cX9_soonBy 53 = .ok (.iload_n 3, 1) := by decide +kernel
theorem dX9_soonBy_54 : decode cX9_soonBy 54 = .ok (.iload 4, 2) := by decide +kernel
theorem dX9_soonBy_56 : decode cX9_soonBy 56 = .ok (.iload 5, 2) := by decide +kernel
theorem dX9_soonBy_58 : decode cX9_soonBy 58 = .ok (.iadd, 1) := by decide +kernel
theorem dX9_soonBy_59 : decode cX9_soonBy 59 = .ok (.invokevirtual 199, 3) := by decide +kernel
theorem dX9_soonBy_62 : decode cX9_soonBy 62 = .ok (.aload_n 0, 1) := by decide +kernel
theorem dX9_soonBy_63 : decode cX9_soonBy 63 = .ok (.iconst 4, 1) := by decide +kernel
theorem dX9_soonBy_64 : decode cX9_soonBy 64 = .ok (.iload 4, 2) := by decide +kernel
theorem dX9_soonBy_66 : decode cX9_soonBy 66 = .ok (.iload 5, 2) := by decide +kernel
theorem dX9_soonBy_68 : decode cX9_soonBy 68 = .ok (.iadd, 1) := by decide +kernel
theorem dX9_soonBy_69 : decode cX9_soonBy 69 = .ok (.iconst 1, 1) := by decide +kernel
theorem dX9_soonBy_70 : decode cX9_soonBy 70 = .ok (.iadd, 1) := by decide +kernel
theorem dX9_soonBy_71 : decode cX9_soonBy 71 = .ok (.invokevirtual 174, 3) := by decide +kernel
theorem dX9_soonBy_74 : decode cX9_soonBy 74 = .ok (.iinc 5 1, 3) := by decide +kernel
theorem dX9_soonBy_77 : decode cX9_soonBy 77 = .ok (.goto (-48), 3) := by decide +kernel
theorem dX9_soonBy_80 : decode cX9_soonBy 80 = .ok (.iconst (-1), 1) := by decide +kernel
theorem dX9_soonBy_81 : decode cX9_soonBy 81 = .ok (.ireturn, 1) := by decide +kernel
theorem dX9_soonNow_0 : decode cX9_soonNow 0 = .ok (.iconst (-1), 1) := by decide +kernel
theorem dX9_soonNow_1 : decode cX9_soonNow 1 = .ok (.istore_n 3, 1) := by decide +kernel
theorem dX9_soonNow_2 : decode cX9_soonNow 2 = .ok (.iconst 0, 1) := by decide +kernel
theorem dX9_soonNow_3 : decode cX9_soonNow 3 = .ok (.istore 4, 2) := by decide +kernel
theorem dX9_soonNow_5 : decode cX9_soonNow 5 = .ok (.iload 4, 2) := by decide +kernel
theorem dX9_soonNow_7 : decode cX9_soonNow 7 = .ok (.iconst 3, 1) := by decide +kernel
theorem dX9_soonNow_8 : decode cX9_soonNow 8 = .ok (.if_icmp .ge 61, 3) := by decide +kernel
theorem dX9_soonNow_11 : decode cX9_soonNow 11 = .ok (.aload_n 0, 1) := by decide +kernel
theorem dX9_soonNow_12 : decode cX9_soonNow 12 = .ok (.getfield 16, 3) := by decide +kernel
theorem dX9_soonNow_15 : decode cX9_soonNow 15 = .ok (.iload_n 2, 1) := by decide +kernel
theorem dX9_soonNow_16 : decode cX9_soonNow 16 = .ok (.iaload, 1) := by decide +kernel
theorem dX9_soonNow_17 : decode cX9_soonNow 17 = .ok (.iload 4, 2) := by decide +kernel
theorem dX9_soonNow_19 : decode cX9_soonNow 19 = .ok (.invokestatic 128, 3) := by decide +kernel
theorem dX9_soonNow_22 : decode cX9_soonNow 22 = .ok (.ifCond .eq 14, 3) := by decide +kernel
theorem dX9_soonNow_25 : decode cX9_soonNow 25 = .ok (.aload_n 0, 1) := by decide +kernel
theorem dX9_soonNow_26 : decode cX9_soonNow 26 = .ok (.iload_n 1, 1) := by decide +kernel
theorem dX9_soonNow_27 : decode cX9_soonNow 27 = .ok (.iload_n 2, 1) := by decide +kernel
theorem dX9_soonNow_28 : decode cX9_soonNow 28 = .ok (.iload 4, 2) := by decide +kernel
theorem dX9_soonNow_30 : decode cX9_soonNow 30 = .ok (.invokevirtual 258, 3) := by decide +kernel
theorem dX9_soonNow_33 : decode cX9_soonNow 33 = .ok (.goto 4, 3) := by decide +kernel
theorem dX9_soonNow_36 : decode cX9_soonNow 36 = .ok (.iconst (-1), 1) := by decide +kernel
theorem dX9_soonNow_37 : decode cX9_soonNow 37 = .ok (.istore 5, 2) := by decide +kernel
theorem dX9_soonNow_39 : decode cX9_soonNow 39 = .ok (.iload 5, 2) := by decide +kernel
theorem dX9_soonNow_41 : decode cX9_soonNow 41 = .ok (.iconst (-1), 1) := by decide +kernel
theorem dX9_soonNow_42 : decode cX9_soonNow 42 = .ok (.if_icmp .eq 19, 3) := by decide +kernel
theorem dX9_soonNow_45 : decode cX9_soonNow 45 = .ok (.iload_n 3, 1) := by decide +kernel
theorem dX9_soonNow_46 : decode cX9_soonNow 46 = .ok (.iconst (-1), 1) := by decide +kernel
theorem dX9_soonNow_47 : decode cX9_soonNow 47 = .ok (.if_icmp .eq 9, 3) := by decide +kernel
theorem dX9_soonNow_50 : decode cX9_soonNow 50 = .ok (.iload 5, 2) := by decide +kernel
theorem dX9_soonNow_52 : decode cX9_soonNow 52 = .ok (.iload_n 3, 1) := by decide +kernel
theorem dX9_soonNow_53 : decode cX9_soonNow 53 = .ok (.if_icmp .ge 8, 3) := by decide +kernel
theorem dX9_soonNow_56 : decode cX9_soonNow 56 = .ok (.iload 5, 2) := by decide +kernel
theorem dX9_soonNow_58 : decode cX9_soonNow 58 = .ok (.goto 4, 3) := by decide +kernel
theorem dX9_soonNow_61 : decode cX9_soonNow 61 = .ok (.iload_n 3, 1) := by decide +kernel
theorem dX9_soonNow_62 : decode cX9_soonNow 62 = .ok (.istore_n 3, 1) := by decide +kernel
theorem dX9_soonNow_63 : decode cX9_soonNow 63 = .ok (.iinc 4 1, 3) := by decide +kernel
theorem dX9_soonNow_66 : decode cX9_soonNow 66 = .ok (.goto (-61), 3) := by decide +kernel
theorem dX9_soonNow_69 : decode cX9_soonNow 69 = .ok (.iload_n 3, 1) := by decide +kernel
theorem dX9_soonNow_70 : decode cX9_soonNow 70 = .ok (.ireturn, 1) := by decide +kernel
theorem dX9_soonTold_0 : decode cX9_soonTold 0 = .ok (.aload_n 0, 1) := by decide +kernel
theorem dX9_soonTold_1 : decode cX9_soonTold 1 = .ok (.getfield 25, 3) := by decide +kernel
theorem dX9_soonTold_4 : decode cX9_soonTold 4 = .ok (.iload_n 1, 1) := by decide +kernel
theorem dX9_soonTold_5 : decode cX9_soonTold 5 = .ok (.iaload, 1) := by decide +kernel
theorem dX9_soonTold_6 : decode cX9_soonTold 6 = .ok (.ifCond .le 8, 3) := by decide +kernel
theorem dX9_soonTold_9 : decode cX9_soonTold 9 = .ok (.bipush (-103), 2) := by decide +kernel
theorem dX9_soonTold_11 : decode cX9_soonTold 11 = .ok (.goto 9, 3) := by decide +kernel
theorem dX9_soonTold_14 : decode cX9_soonTold 14 = .ok (.aload_n 0, 1) := by decide +kernel
theorem dX9_soonTold_15 : decode cX9_soonTold 15 = .ok (.iload_n 1, 1) := by decide +kernel
theorem dX9_soonTold_16 : decode cX9_soonTold 16 = .ok (.iload_n 2, 1) := by decide +kernel
theorem dX9_soonTold_17 : decode cX9_soonTold 17 = .ok (.invokevirtual 261, 3) := by decide +kernel
theorem dX9_soonTold_20 : decode cX9_soonTold 20 = .ok (.ireturn, 1) := by decide +kernel
theorem dX9_soon_0 : decode cX9_soon 0 = .ok (.aload_n 0, 1) := by decide +kernel
theorem dX9_soon_1 : decode cX9_soon 1 = .ok (.iload_n 1, 1) := by decide +kernel
theorem dX9_soon_2 : decode cX9_soon 2 = .ok (.invokevirtual 209, 3) := by decide +kernel
theorem dX9_soon_5 : decode cX9_soon 5 = .ok (.ifCond .eq 19, 3) := by decide +kernel
theorem dX9_soon_8 : decode cX9_soon 8 = .ok (.iload_n 2, 1) := by decide +kernel
theorem dX9_soon_9 : decode cX9_soon 9 = .ok (.invokestatic 161, 3) := by decide +kernel
theorem dX9_soon_12 : decode cX9_soon 12 = .ok (.ifCond .eq 12, 3) := by decide +kernel
theorem dX9_soon_15 : decode cX9_soon 15 = .ok (.aload_n 0, 1) := by decide +kernel
theorem dX9_soon_16 : decode cX9_soon 16 = .ok (.iload_n 1, 1) := by decide +kernel
theorem dX9_soon_17 : decode cX9_soon 17 = .ok (.iload_n 2, 1) := by decide +kernel
theorem dX9_soon_18 : decode cX9_soon 18 = .ok (.invokevirtual 264, 3) := by decide +kernel
theorem dX9_soon_21 : decode cX9_soon 21 = .ok (.goto 5, 3) := by decide +kernel
theorem dX9_soon_24 : decode cX9_soon 24 = .ok (.bipush (-101), 2) := by decide +kernel
theorem dX9_soon_26 : decode cX9_soon 26 = .ok (.ireturn, 1) := by decide +kernel
theorem dX9_canAny_0 : decode cX9_canAny 0 = .ok (.iconst 0, 1) := by decide +kernel
theorem dX9_canAny_1 : decode cX9_canAny 1 = .ok (.istore_n 3, 1) := by decide +kernel
theorem dX9_canAny_2 : decode cX9_canAny 2 = .ok (.iconst 0, 1) := by decide +kernel
theorem dX9_canAny_3 : decode cX9_canAny 3 = .ok (.istore 4, 2) := by decide +kernel
theorem dX9_canAny_5 : decode cX9_canAny 5 = .ok (.iload 4, 2) := by decide +kernel
theorem dX9_canAny_7 : decode cX9_canAny 7 = .ok (.aload_n 0, 1) := by decide +kernel
theorem dX9_canAny_8 : decode cX9_canAny 8 = .ok (.getfield 168, 3) := by decide +kernel
theorem dX9_canAny_11 : decode cX9_canAny 11 = .ok (.if_icmp .ge 63, 3) := by decide +kernel
theorem dX9_canAny_14 : decode cX9_canAny 14 = .ok (.aload_n 0, 1) := by decide +kernel
theorem dX9_canAny_15 : decode cX9_canAny 15 = .ok (.iload 4, 2) := by decide +kernel
theorem dX9_canAny_17 : decode cX9_canAny 17 = .ok (.iconst 4, 1) := by decide +kernel
theorem dX9_canAny_18 : decode cX9_canAny 18 = .ok (.invokevirtual 234, 3) := by decide +kernel
theorem dX9_canAny_21 : decode cX9_canAny 21 = .ok (.aload_n 0, 1) := by decide +kernel
theorem dX9_canAny_22 : decode cX9_canAny 22 = .ok (.iconst 4, 1) := by decide +kernel
theorem dX9_canAny_23 : decode cX9_canAny 23 = .ok (.aload_n 0, 1) := by decide +kernel
theorem dX9_canAny_24 : decode cX9_canAny 24 = .ok (.getfield 171, 3) := by decide +kernel
theorem dX9_canAny_27 : decode cX9_canAny 27 = .ok (.aload_n 0, 1) := by decide +kernel
theorem dX9_canAny_28 : decode cX9_canAny 28 = .ok (.getfield 28, 3) := by decide +kernel
theorem dX9_canAny_31 : decode cX9_canAny 31 = .ok (.iload 4, 2) := by decide +kernel
theorem dX9_canAny_33 : decode cX9_canAny 33 = .ok (.iaload, 1) := by decide +kernel
theorem dX9_canAny_34 : decode cX9_canAny 34 = .ok (.iadd, 1) := by decide +kernel
theorem dX9_canAny_35 : decode cX9_canAny 35 = .ok (.invokevirtual 174, 3) := by decide +kernel
theorem dX9_canAny_38 : decode cX9_canAny 38 = .ok (.iload_n 3, 1) := by decide +kernel
theorem dX9_canAny_39 : decode cX9_canAny 39 = .ok (.ifCond .ne 23, 3) := by decide +kernel
theorem dX9_canAny_42 : decode cX9_canAny 42 = .ok (.aload_n 0, 1) := by decide +kernel
theorem dX9_canAny_43 : decode cX9_canAny 43 = .ok (.getfield 31, 3) := by decide +kernel
theorem dX9_canAny_46 : decode cX9_canAny 46 = .ok (.iload 4, 2) := by decide +kernel
theorem dX9_canAny_48 : decode cX9_canAny 48 = .ok (.iaload, 1) := by decide +kernel
theorem dX9_canAny_49 : decode cX9_canAny 49 = .ok (.ifCond .ne 17, 3) := by decide +kernel
theorem dX9_canAny_52 : decode cX9_canAny 52 = .ok (.aload_n 0, 1) := by decide +kernel
theorem dX9_canAny_53 : decode cX9_canAny 53 = .ok (.iconst 4, 1) := by decide +kernel
theorem dX9_canAny_54 : decode cX9_canAny 54 = .ok (.iload_n 1, 1) := by decide +kernel
theorem dX9_canAny_55 : decode cX9_canAny 55 = .ok (.iload_n 2, 1) := by decide +kernel
theorem dX9_canAny_56 : decode cX9_canAny 56 = .ok (.invokevirtual 190, 3) := by decide +kernel
theorem dX9_canAny_59 : decode cX9_canAny 59 = .ok (.ifCond .eq 7, 3) := by decide +kernel
theorem dX9_canAny_62 : decode cX9_canAny 62 = .ok (.iconst 1, 1) := by decide +kernel
theorem dX9_canAny_63 : decode cX9_canAny 63 = .ok (.goto 4, 3) := by decide +kernel
theorem dX9_canAny_66 : decode cX9_canAny 66 = .ok (.iconst 0, 1) := by decide +kernel
theorem dX9_canAny_67 : decode cX9_canAny 67 = .ok (.istore_n 3, 1) := by decide +kernel
theorem dX9_canAny_68 : decode cX9_canAny 68 = .ok (.iinc 4 1, 3) := by decide +kernel
theorem dX9_canAny_71 : decode cX9_canAny 71 = .ok (.goto (-66), 3) := by decide +kernel
theorem dX9_canAny_74 : decode cX9_canAny 74 = .ok (.iload_n 3, 1) := by decide +kernel
theorem dX9_canAny_75 : decode cX9_canAny 75 = .ok (.ireturn, 1) := by decide +kernel
theorem dX9_keptNow_0 : decode cX9_keptNow 0 = .ok (.iconst 1, 1) := by decide +kernel
theorem dX9_keptNow_1 : decode cX9_keptNow 1 = .ok (.istore_n 2, 1) := by decide +kernel
theorem dX9_keptNow_2 : decode cX9_keptNow 2 = .ok (.iload_n 2, 1) := by decide +kernel
theorem dX9_keptNow_3 : decode cX9_keptNow 3 = .ok (.bipush 9, 2) := by decide +kernel
theorem dX9_keptNow_5 : decode cX9_keptNow 5 = .ok (.if_icmp .gt 20, 3) := by decide +kernel
theorem dX9_keptNow_8 : decode cX9_keptNow 8 = .ok (.aload_n 0, 1) := by decide +kernel
theorem dX9_keptNow_9 : decode cX9_keptNow 9 = .ok (.iload_n 1, 1) := by decide +kernel
theorem dX9_keptNow_10 : decode cX9_keptNow 10 = .ok (.iload_n 2, 1) := by decide +kernel
theorem dX9_keptNow_11 : decode cX9_keptNow 11 = .ok (.invokevirtual 267, 3) := by decide +kernel
theorem dX9_keptNow_14 : decode cX9_keptNow 14 = .ok (.ifCond .ne 5, 3) := by decide +kernel
theorem dX9_keptNow_17 : decode cX9_keptNow 17 = .ok (.iload_n 2, 1) := by decide +kernel
theorem dX9_keptNow_18 : decode cX9_keptNow 18 = .ok (.ireturn, 1) := by decide +kernel
theorem dX9_keptNow_19 : decode cX9_keptNow 19 = .ok (.iinc 2 1, 3) := by decide +kernel
theorem dX9_keptNow_22 : decode cX9_keptNow 22 = .ok (.goto (-20), 3) := by decide +kernel
theorem dX9_keptNow_25 : decode cX9_keptNow 25 = .ok (.iconst (-1), 1) := by decide +kernel
theorem dX9_keptNow_26 : decode cX9_keptNow 26 = .ok (.ireturn, 1) := by decide +kernel
theorem dX9_kept_0 : decode cX9_kept 0 = .ok (.iload_n 1, 1) := by decide +kernel
theorem dX9_kept_1 : decode cX9_kept 1 = .ok (.invokestatic 161, 3) := by decide +kernel
theorem dX9_kept_4 : decode cX9_kept 4 = .ok (.ifCond .ne 6, 3) := by decide +kernel
theorem dX9_kept_7 : decode cX9_kept 7 = .ok (.bipush (-101), 2) := by decide +kernel
theorem dX9_kept_9 : decode cX9_kept 9 = .ok (.ireturn, 1) := by decide +kernel
theorem dX9_kept_10 : decode cX9_kept 10 = .ok (.aload_n 0, 1) := by decide +kernel
theorem dX9_kept_11 : decode cX9_kept 11 = .ok (.getfield 149, 3) := by decide +kernel
theorem dX9_kept_14 : decode cX9_kept 14 = .ok (.ifCond .eq 11, 3) := by decide +kernel
theorem dX9_kept_17 : decode cX9_kept 17 = .ok (.aload_n 0, 1) := by decide +kernel
theorem dX9_kept_18 : decode cX9_kept 18 = .ok (.iload_n 1, 1) := by decide +kernel
theorem dX9_kept_19 : decode cX9_kept 19 = .ok (.invokevirtual 270, 3) := by decide +kernel
theorem dX9_kept_22 : decode cX9_kept 22 = .ok (.goto 5, 3) := by decide +kernel
theorem dX9_kept_25 : decode cX9_kept 25 = .ok (.bipush (-103), 2) := by decide +kernel
theorem dX9_kept_27 : decode cX9_kept 27 = .ok (.ireturn, 1) := by decide +kernel
theorem dX9_book_0 : decode cX9_book 0 = .ok (.aload_n 0, 1) := by decide +kernel
theorem dX9_book_1 : decode cX9_book 1 = .ok (.iload_n 1, 1) := by decide +kernel
theorem dX9_book_2 : decode cX9_book 2 = .ok (.invokevirtual 209, 3) := by decide +kernel
theorem dX9_book_5 : decode cX9_book 5 = .ok (.ifCond .ne 6, 3) := by decide +kernel
theorem dX9_book_8 : decode cX9_book 8 = .ok (.bipush (-101), 2) := by decide +kernel
theorem dX9_book_10 : decode cX9_book 10 = .ok (.ireturn, 1) := by decide +kernel
theorem dX9_book_11 : decode cX9_book 11 = .ok (.aload_n 0, 1) := by decide +kernel
theorem dX9_book_12 : decode cX9_book 12 = .ok (.getfield 28, 3) := by decide +kernel
theorem dX9_book_15 : decode cX9_book 15 = .ok (.iload_n 1, 1) := by decide +kernel
theorem dX9_book_16 : decode cX9_book 16 = .ok (.iaload, 1) := by decide +kernel
theorem dX9_book_17 : decode cX9_book 17 = .ok (.iconst 1, 1) := by decide +kernel
theorem dX9_book_18 : decode cX9_book 18 = .ok (.if_icmp .ne 6, 3) := by decide +kernel
theorem dX9_book_21 : decode cX9_book 21 = .ok (.bipush (-103), 2) := by decide +kernel
theorem dX9_book_23 : decode cX9_book 23 = .ok (.ireturn, 1) := by decide +kernel
theorem dX9_book_24 : decode cX9_book 24 = .ok (.aload_n 0, 1) := by decide +kernel
theorem dX9_book_25 : decode cX9_book 25 = .ok (.getfield 155, 3) := by decide +kernel
theorem dX9_book_28 : decode cX9_book 28 = .ok (.istore_n 2, 1) := by decide +kernel
theorem dX9_book_29 : decode cX9_book 29 = .ok (.aload_n 0, 1) := by decide +kernel
theorem dX9_book_30 : decode cX9_book 30 = .ok (.iload_n 1, 1) := by decide +kernel
theorem dX9_book_31 : decode cX9_book 31 = .ok (.putfield 68, 3) := by decide +kernel
theorem dX9_book_34 : decode cX9_book 34 = .ok (.aload_n 0, 1) := by decide +kernel
theorem dX9_book_35 : decode cX9_book 35 = .ok (.iconst 0, 1) := by decide +kernel
theorem dX9_book_36 : decode cX9_book 36 = .ok (.putfield 155, 3) := by decide +kernel
theorem dX9_book_39 : decode cX9_book 39 = .ok (.aload_n 0, 1) := by decide +kernel
theorem dX9_book_40 : decode cX9_book 40 = .ok (.aload_n 0, 1) := by decide +kernel
theorem dX9_book_41 : decode cX9_book 41 = .ok (.getfield 171, 3) := by decide +kernel
theorem dX9_book_44 : decode cX9_book 44 = .ok (.putfield 274, 3) := by decide +kernel
theorem dX9_book_47 : decode cX9_book 47 = .ok (.aload_n 0, 1) := by decide +kernel
theorem dX9_book_48 : decode cX9_book 48 = .ok (.aload_n 0, 1) := by decide +kernel
theorem dX9_book_49 : decode cX9_book 49 = .ok (.getfield 19, 3) := by decide +kernel
theorem dX9_book_52 : decode cX9_book 52 = .ok (.iload_n 1, 1) := by decide +kernel
theorem dX9_book_53 : decode cX9_book 53 = .ok (.iaload, 1) := by decide +kernel
theorem dX9_book_54 : decode cX9_book 54 = .ok (.putfield 277, 3) := by decide +kernel
theorem dX9_book_57 : decode cX9_book 57 = .ok (.aload_n 0, 1) := by decide +kernel
theorem dX9_book_58 : decode cX9_book 58 = .ok (.aload_n 0, 1) := by decide +kernel
theorem dX9_book_59 : decode cX9_book 59 = .ok (.getfield 22, 3) := by decide +kernel
theorem dX9_book_62 : decode cX9_book 62 = .ok (.iload_n 1, 1) := by decide +kernel
theorem dX9_book_63 : decode cX9_book 63 = .ok (.iaload, 1) := by decide +kernel
theorem dX9_book_64 : decode cX9_book 64 = .ok (.putfield 280, 3) := by decide +kernel
theorem dX9_book_67 : decode cX9_book 67 = .ok (.aload_n 0, 1) := by decide +kernel
theorem dX9_book_68 : decode cX9_book 68 = .ok (.aload_n 0, 1) := by decide +kernel
theorem dX9_book_69 : decode cX9_book 69 = .ok (.getfield 25, 3) := by decide +kernel
theorem dX9_book_72 : decode cX9_book 72 = .ok (.iload_n 1, 1) := by decide +kernel
theorem dX9_book_73 : decode cX9_book 73 = .ok (.iaload, 1) := by decide +kernel
theorem dX9_book_74 : decode cX9_book 74 = .ok (.putfield 283, 3) := by decide +kernel
theorem dX9_book_77 : decode cX9_book 77 = .ok (.aload_n 0, 1) := by decide +kernel
theorem dX9_book_78 : decode cX9_book 78 = .ok (.aload_n 0, 1) := by decide +kernel
theorem dX9_book_79 : decode cX9_book 79 = .ok (.getfield 34, 3) := by decide +kernel
theorem dX9_book_82 : decode cX9_book 82 = .ok (.iload_n 1, 1) := by decide +kernel
theorem dX9_book_83 : decode cX9_book 83 = .ok (.iaload, 1) := by decide +kernel
theorem dX9_book_84 : decode cX9_book 84 = .ok (.putfield 286, 3) := by decide +kernel
theorem dX9_book_87 : decode cX9_book 87 = .ok (.iconst 0, 1) := by decide +kernel
theorem dX9_book_88 : decode cX9_book 88 = .ok (.istore_n 3, 1) := by decide +kernel
theorem dX9_book_89 : decode cX9_book 89 = .ok (.iload_n 3, 1) := by decide +kernel
theorem dX9_book_90 : decode cX9_book 90 = .ok (.bipush 12, 2) := by decide +kernel
theorem dX9_book_92 : decode cX9_book 92 = .ok (.if_icmp .ge 26, 3) := by decide +kernel
theorem dX9_book_95 : decode cX9_book 95 = .ok (.aload_n 0, 1) := by decide +kernel
theorem dX9_book_96 : decode cX9_book 96 = .ok (.getfield 75, 3) := by decide +kernel
theorem dX9_book_99 : decode cX9_book 99 = .ok (.iload_n 3, 1) := by decide +kernel
theorem dX9_book_100 : decode cX9_book 100 = .ok (.aload_n 0, 1) := by decide +kernel
theorem dX9_book_101 : decode cX9_book 101 = .ok (.getfield 37, 3) := by decide +kernel
theorem dX9_book_104 : decode cX9_book 104 = .ok (.bipush 12, 2) := by decide +kernel
theorem dX9_book_106 : decode cX9_book 106 = .ok (.iload_n 1, 1) := by decide +kernel
theorem dX9_book_107 : decode cX9_book 107 = .ok (.imul, 1) := by decide +kernel
theorem dX9_book_108 : decode cX9_book 108 = .ok (.iload_n 3, 1) := by decide +kernel
theorem dX9_book_109 : decode cX9_book 109 = .ok (.iadd, 1) := by decide +kernel
theorem dX9_book_110 : decode cX9_book 110 = .ok (.iaload, 1) := by decide +kernel
theorem dX9_book_111 : decode cX9_book 111 = .ok (.iastore, 1) := by decide +kernel
theorem dX9_book_112 : decode cX9_book 112 = .ok (.iinc 3 1, 3) := by decide +kernel
theorem dX9_book_115 : decode cX9_book 115 = .ok (.goto (-26), 3) := by decide +kernel
theorem dX9_book_118 : decode cX9_book 118 = .ok (.iload_n 2, 1) := by decide +kernel
theorem dX9_book_119 : decode cX9_book 119 = .ok (.ireturn, 1) := by decide +kernel
theorem dX9_next_0 : decode cX9_next 0 = .ok (.aload_n 0, 1) := by decide +kernel
theorem dX9_next_1 : decode cX9_next 1 = .ok (.getfield 68, 3) := by decide +kernel
theorem dX9_next_4 : decode cX9_next 4 = .ok (.iconst (-1), 1) := by decide +kernel
theorem dX9_next_5 : decode cX9_next 5 = .ok (.if_icmp .ne 6, 3) := by decide +kernel
theorem dX9_next_8 : decode cX9_next 8 = .ok (.bipush (-103), 2) := by decide +kernel
theorem dX9_next_10 : decode cX9_next 10 = .ok (.ireturn, 1) := by decide +kernel
theorem dX9_next_11 : decode cX9_next 11 = .ok (.iload_n 1, 1) := by decide +kernel
theorem dX9_next_12 : decode cX9_next 12 = .ok (.iconst 0, 1) := by decide +kernel
theorem dX9_next_13 : decode cX9_next 13 = .ok (.sipush 999, 3) := by decide +kernel
theorem dX9_next_16 : decode cX9_next 16 = .ok (.invokestatic 111, 3) := by decide +kernel
theorem dX9_next_19 : decode cX9_next 19 = .ok (.ifCond .ne 6, 3) := by decide +kernel
theorem dX9_next_22 : decode cX9_next 22 = .ok (.bipush (-102), 2) := by decide +kernel
theorem dX9_next_24 : decode cX9_next 24 = .ok (.ireturn, 1) := by decide +kernel
theorem dX9_next_25 : decode cX9_next 25 = .ok (.aload_n 0, 1) := by decide +kernel
theorem dX9_next_26 : decode cX9_next 26 = .ok (.getfield 155, 3) := by decide +kernel
theorem dX9_next_29 : decode cX9_next 29 = .ok (.iconst 5, 1) := by decide +kernel
theorem dX9_next_30 : decode cX9_next 30 = .ok (.if_icmp .ne 6, 3) := by decide +kernel
theorem dX9_next_33 : decode cX9_next 33 = .ok (.bipush (-104), 2) := by decide +kernel
theorem dX9_next_35 : decode cX9_next 35 = .ok (.ireturn, 1) := by decide +kernel
theorem dX9_next_36 : decode cX9_next 36 = .ok (.aload_n 0, 1) := by decide +kernel
theorem dX9_next_37 : decode cX9_next 37 = .ok (.getfield 72, 3) := by decide +kernel
theorem dX9_next_40 : decode cX9_next 40 = .ok (.aload_n 0, 1) := by decide +kernel
theorem dX9_next_41 : decode cX9_next 41 = .ok (.getfield 155, 3) := by decide +kernel
theorem dX9_next_44 : decode cX9_next 44 = .ok (.iload_n 1, 1) := by decide +kernel
theorem dX9_next_45 : decode cX9_next 45 = .ok (.iastore, 1) := by decide +kernel
theorem dX9_next_46 : decode cX9_next 46 = .ok (.aload_n 0, 1) := by decide +kernel
theorem dX9_next_47 : decode cX9_next 47 = .ok (.dup, 1) := by decide +kernel
theorem dX9_next_48 : decode cX9_next 48 = .ok (.getfield 155, 3) := by decide +kernel
theorem dX9_next_51 : decode cX9_next 51 = .ok (.iconst 1, 1) := by decide +kernel
theorem dX9_next_52 : decode cX9_next 52 = .ok (.iadd, 1) := by decide +kernel
theorem dX9_next_53 : decode cX9_next 53 = .ok (.putfield 155, 3) := by decide +kernel
theorem dX9_next_56 : decode cX9_next 56 = .ok (.aload_n 0, 1) := by decide +kernel
theorem dX9_next_57 : decode cX9_next 57 = .ok (.getfield 155, 3) := by decide +kernel
theorem dX9_next_60 : decode cX9_next 60 = .ok (.ireturn, 1) := by decide +kernel
theorem dX9_layWays_0 : decode cX9_layWays 0 = .ok (.aload_n 0, 1) := by decide +kernel
theorem dX9_layWays_1 : decode cX9_layWays 1 = .ok (.getfield 19, 3) := by decide +kernel
theorem dX9_layWays_4 : decode cX9_layWays 4 = .ok (.iconst 4, 1) := by decide +kernel
theorem dX9_layWays_5 : decode cX9_layWays 5 = .ok (.aload_n 0, 1) := by decide +kernel
theorem dX9_layWays_6 : decode cX9_layWays 6 = .ok (.getfield 277, 3) := by decide +kernel
theorem dX9_layWays_9 : decode cX9_layWays 9 = .ok (.iastore, 1) := by decide +kernel
theorem dX9_layWays_10 : decode cX9_layWays 10 = .ok (.aload_n 0, 1) := by decide +kernel
theorem dX9_layWays_11 : decode cX9_layWays 11 = .ok (.getfield 22, 3) := by decide +kernel
theorem dX9_layWays_14 : decode cX9_layWays 14 = .ok (.iconst 4, 1) := by decide +kernel
theorem dX9_layWays_15 : decode cX9_layWays 15 = .ok (.aload_n 0, 1) := by decide +kernel
theorem dX9_layWays_16 : decode cX9_layWays 16 = .ok (.getfield 280, 3) := by decide +kernel
theorem dX9_layWays_19 : decode cX9_layWays 19 = .ok (.iastore, 1) := by decide +kernel
theorem dX9_layWays_20 : decode cX9_layWays 20 = .ok (.aload_n 0, 1) := by decide +kernel
theorem dX9_layWays_21 : decode cX9_layWays 21 = .ok (.getfield 25, 3) := by decide +kernel
theorem dX9_layWays_24 : decode cX9_layWays 24 = .ok (.iconst 4, 1) := by decide +kernel
theorem dX9_layWays_25 : decode cX9_layWays 25 = .ok (.aload_n 0, 1) := by decide +kernel
theorem dX9_layWays_26 : decode cX9_layWays 26 = .ok (.getfield 283, 3) := by decide +kernel
theorem dX9_layWays_29 : decode cX9_layWays 29 = .ok (.iastore, 1) := by decide +kernel
theorem dX9_layWays_30 : decode cX9_layWays 30 = .ok (.aload_n 0, 1) := by decide +kernel
theorem dX9_layWays_31 : decode cX9_layWays 31 = .ok (.getfield 34, 3) := by decide +kernel
theorem dX9_layWays_34 : decode cX9_layWays 34 = .ok (.iconst 4, 1) := by decide +kernel
theorem dX9_layWays_35 : decode cX9_layWays 35 = .ok (.aload_n 0, 1) := by decide +kernel
theorem dX9_layWays_36 : decode cX9_layWays 36 = .ok (.getfield 286, 3) := by decide +kernel
theorem dX9_layWays_39 : decode cX9_layWays 39 = .ok (.iastore, 1) := by decide +kernel
theorem dX9_layWays_40 : decode cX9_layWays 40 = .ok (.iconst 0, 1) := by decide +kernel
theorem dX9_layWays_41 : decode cX9_layWays 41 = .ok (.istore_n 1, 1) := by decide +kernel
theorem dX9_layWays_42 : decode cX9_layWays 42 = .ok (.iload_n 1, 1) := by decide +kernel
theorem dX9_layWays_43 : decode cX9_layWays 43 = .ok (.bipush 12, 2) := by decide +kernel
theorem dX9_layWays_45 : decode cX9_layWays 45 = .ok (.if_icmp .ge 24, 3) := by decide +kernel
theorem dX9_layWays_48 : decode cX9_layWays 48 = .ok (.aload_n 0, 1) := by decide +kernel
theorem dX9_layWays_49 : decode cX9_layWays 49 = .ok (.getfield 37, 3) := by decide +kernel
theorem dX9_layWays_52 : decode cX9_layWays 52 = .ok (.bipush 48, 2) := by decide +kernel
theorem dX9_layWays_54 : decode cX9_layWays 54 = .ok (.iload_n 1, 1) := by decide +kernel
theorem dX9_layWays_55 : decode cX9_layWays 55 = .ok (.iadd, 1) := by decide +kernel
theorem dX9_layWays_56 : decode cX9_layWays 56 = .ok (.aload_n 0, 1) := by decide +kernel
theorem dX9_layWays_57 : decode cX9_layWays 57 = .ok (.getfield 75, 3) := by decide +kernel
theorem dX9_layWays_60 : decode cX9_layWays 60 = .ok (.iload_n 1, 1) := by decide +kernel
theorem dX9_layWays_61 : decode cX9_layWays 61 = .ok (.iaload, 1) := by decide +kernel
theorem dX9_layWays_62 : decode cX9_layWays 62 = .ok (.iastore, 1) := by decide +kernel
theorem dX9_layWays_63 : decode cX9_layWays 63 = .ok (.iinc 1 1, 3) := by decide +kernel
theorem dX9_layWays_66 : decode cX9_layWays 66 = .ok (.goto (-24), 3) := by decide +kernel
theorem dX9_layWays_69 : decode cX9_layWays 69 = .ok (.aload_n 0, 1) := by decide +kernel
theorem dX9_layWays_70 : decode cX9_layWays 70 = .ok (.iconst 0, 1) := by decide +kernel
theorem dX9_layWays_71 : decode cX9_layWays 71 = .ok (.putfield 289, 3) := by decide +kernel
theorem dX9_layWays_74 : decode cX9_layWays 74 = .ok (.aload_n 0, 1) := by decide +kernel
theorem dX9_layWays_75 : decode cX9_layWays 75 = .ok (.iconst (-1), 1) := by decide +kernel
theorem dX9_layWays_76 : decode cX9_layWays 76 = .ok (.putfield 292, 3) := by decide +kernel
theorem dX9_layWays_79 : decode cX9_layWays 79 = .ok (.aload_n 0, 1) := by decide +kernel
theorem dX9_layWays_80 : decode cX9_layWays 80 = .ok (.iconst 0, 1) := by decide +kernel
theorem dX9_layWays_81 : decode cX9_layWays 81 = .ok (.invokevirtual 237, 3) := by decide +kernel
theorem dX9_layWays_84 : decode cX9_layWays 84 = .ok (.iconst 0, 1) := by decide +kernel
theorem dX9_layWays_85 : decode cX9_layWays 85 = .ok (.istore_n 1, 1) := by decide +kernel
theorem dX9_layWays_86 : decode cX9_layWays 86 = .ok (.iload_n 1, 1) := by decide +kernel
theorem dX9_layWays_87 : decode cX9_layWays 87 = .ok (.ifCond .lt 102, 3) := by decide +kernel
theorem dX9_layWays_90 : decode cX9_layWays 90 = .ok (.iload_n 1, 1) := by decide +kernel
theorem dX9_layWays_91 : decode cX9_layWays 91 = .ok (.ifCond .le 26, 3) := by decide +kernel
theorem dX9_layWays_94 : decode cX9_layWays 94 = .ok (.aload_n 0, 1) := by decide +kernel
theorem dX9_layWays_95 : decode cX9_layWays 95 = .ok (.getfield 22, 3) := by decide +kernel
theorem dX9_layWays_98 : decode cX9_layWays 98 = .ok (.iconst 4, 1) := by decide +kernel
theorem dX9_layWays_99 : decode cX9_layWays 99 = .ok (.iaload, 1) := by decide +kernel
theorem dX9_layWays_100 : decode cX9_layWays 100 = .ok (.aload_n 0, 1) := by decide +kernel
theorem dX9_layWays_101 : decode cX9_layWays 101 = .ok (.getfield 72, 3) := by decide +kernel
theorem dX9_layWays_104 : decode cX9_layWays 104 = .ok (.iload_n 1, 1) := by decide +kernel
theorem dX9_layWays_105 : decode cX9_layWays 105 = .ok (.iconst 1, 1) := by decide +kernel
theorem dX9_layWays_106 : decode cX9_layWays 106 = .ok (.isub, 1) := by decide +kernel
theorem dX9_layWays_107 : decode cX9_layWays 107 = .ok (.iaload, 1) := by decide +kernel
theorem dX9_layWays_108 : decode cX9_layWays 108 = .ok (.if_icmp .eq 9, 3) := by decide +kernel
theorem dX9_layWays_111 : decode cX9_layWays 111 = .ok (.iinc 1 (-1), 3) := by decide +kernel
theorem dX9_layWays_114 : decode cX9_layWays 114 = .ok (.goto 63, 3) := by decide +kernel
theorem dX9_layWays_117 : decode cX9_layWays 117 = .ok (.iload_n 1, 1) := by decide +kernel
theorem dX9_layWays_118 : decode cX9_layWays 118 = .ok (.aload_n 0, 1) := by decide +kernel
theorem dX9_layWays_119 : decode cX9_layWays 119 = .ok (.getfield 155, 3) := by decide +kernel
theorem dX9_layWays_122 : decode cX9_layWays 122 = .ok (.if_icmp .ne 49, 3) := by decide +kernel
theorem dX9_layWays_125 : decode cX9_layWays 125 = .ok (.aload_n 0, 1) := by decide +kernel
theorem dX9_layWays_126 : decode cX9_layWays 126 = .ok (.dup, 1) := by decide +kernel
theorem dX9_layWays_127 : decode cX9_layWays 127 = .ok (.getfield 289, 3) := by decide +kernel
theorem dX9_layWays_130 : decode cX9_layWays 130 = .ok (.iconst 1, 1) := by decide +kernel
theorem dX9_layWays_131 : decode cX9_layWays 131 = .ok (.iadd, 1) := by decide +kernel
theorem dX9_layWays_132 : decode cX9_layWays 132 = .ok (.putfield 289, 3) := by decide +kernel
theorem dX9_layWays_135 : decode cX9_layWays 135 = .ok (.aload_n 0, 1) := by decide +kernel
theorem dX9_layWays_136 : decode cX9_layWays 136 = .ok (.aload_n 0, 1) := by decide +kernel
theorem dX9_layWays_137 : decode cX9_layWays 137 = .ok (.getfield 25, 3) := by decide +kernel
theorem dX9_layWays_140 : decode cX9_layWays 140 = .ok (.iconst 4, 1) := by decide +kernel
theorem dX9_layWays_141 : decode cX9_layWays 141 = .ok (.iaload, 1) := by decide +kernel
theorem dX9_layWays_142 : decode cX9_layWays 142 = .ok (.aload_n 0, 1) := by decide +kernel
theorem dX9_layWays_143 : decode cX9_layWays 143 = .ok (.getfield 292, 3) := by decide +kernel
theorem dX9_layWays_146 : decode cX9_layWays 146 = .ok (.if_icmp .le 12, 3) := by decide +kernel
theorem dX9_layWays_149 : decode cX9_layWays 149 = .ok (.aload_n 0, 1) := by decide +kernel
theorem dX9_layWays_150 : decode cX9_layWays 150 = .ok (.getfield 25, 3) := by decide +kernel
theorem dX9_layWays_153 : decode cX9_layWays 153 = .ok (.iconst 4, 1) := by decide +kernel
theorem dX9_layWays_154 : decode cX9_layWays 154 = .ok (.iaload, 1) := by decide +kernel
theorem dX9_layWays_155 : decode cX9_layWays 155 = .ok (.goto 7, 3) := by decide +kernel
theorem dX9_layWays_158 : decode cX9_layWays 158 = .ok (.aload_n 0, 1) := by decide +kernel
theorem dX9_layWays_159 : decode cX9_layWays 159 = .ok (.getfield 292, 3) := by decide +kernel
theorem dX9_layWays_162 : decode cX9_layWays 162 = .ok (.putfield 292, 3) := by decide +kernel
theorem dX9_layWays_165 : decode cX9_layWays 165 = .ok (.iinc 1 (-1), 3) := by decide +kernel
theorem dX9_layWays_168 : decode cX9_layWays 168 = .ok (.goto 9, 3) := by decide +kernel
theorem dX9_layWays_171 : decode cX9_layWays 171 = .ok (.aload_n 0, 1) := by decide +kernel
theorem dX9_layWays_172 : decode cX9_layWays 172 = .ok (.iload_n 1, 1) := by decide +kernel
theorem dX9_layWays_173 : decode cX9_layWays 173 = .ok (.invokevirtual 295, 3) := by decide +kernel
theorem dX9_layWays_176 : decode cX9_layWays 176 = .ok (.istore_n 1, 1) := by decide +kernel
theorem dX9_layWays_177 : decode cX9_layWays 177 = .ok (.iload_n 1, 1) := by decide +kernel
theorem dX9_layWays_178 : decode cX9_layWays 178 = .ok (.ifCond .lt (-92), 3) := by decide +kernel
theorem dX9_layWays_181 : decode cX9_layWays 181 = .ok (.aload_n 0, 1) := by decide +kernel
theorem dX9_layWays_182 : decode cX9_layWays 182 = .ok (.iload_n 1, 1) := by decide +kernel
theorem dX9_layWays_183 : decode cX9_layWays 183 = .ok (.invokevirtual 249, 3) := by decide +kernel
theorem dX9_layWays_186 : decode cX9_layWays 186 = .ok (.goto (-100), 3) := by decide +kernel
theorem dX9_layWays_189 : decode cX9_layWays 189 = .ok (.return_, 1) := by decide +kernel
theorem dX9_tryRow_0 : decode cX9_tryRow 0 = .ok (.iconst 0, 1) := by decide +kernel
theorem dX9_tryRow_1 : decode cX9_tryRow 1 = .ok (.istore_n 2, 1) := by decide +kernel
theorem dX9_tryRow_2 : decode cX9_tryRow 2 = .ok (.aload_n 0, 1) := by decide +kernel
theorem dX9_tryRow_3 : decode cX9_tryRow 3 = .ok (.getfield 65, 3) := by decide +kernel
theorem dX9_tryRow_6 : decode cX9_tryRow 6 = .ok (.iload_n 1, 1) := by decide +kernel
theorem dX9_tryRow_7 : decode cX9_tryRow 7 = .ok (.iaload, 1) := by decide +kernel
theorem dX9_tryRow_8 : decode cX9_tryRow 8 = .ok (.bipush 12, 2) := by decide +kernel
theorem dX9_tryRow_10 : decode cX9_tryRow 10 = .ok (.if_icmp .ge 23, 3) := by decide +kernel
theorem dX9_tryRow_13 : decode cX9_tryRow 13 = .ok (.iload_n 2, 1) := by decide +kernel
theorem dX9_tryRow_14 : decode cX9_tryRow 14 = .ok (.ifCond .ne 19, 3) := by decide +kernel
theorem dX9_tryRow_17 : decode cX9_tryRow 17 = .ok (.aload_n 0, 1) := by decide +kernel
theorem dX9_tryRow_18 : decode cX9_tryRow 18 = .ok (.iload_n 1, 1) := by decide +kernel
theorem dX9_tryRow_19 : decode cX9_tryRow 19 = .ok (.aload_n 0, 1) := by decide +kernel
theorem dX9_tryRow_20 : decode cX9_tryRow 20 = .ok (.getfield 274, 3) := by decide +kernel
theorem dX9_tryRow_23 : decode cX9_tryRow 23 = .ok (.iload_n 1, 1) := by decide +kernel
theorem dX9_tryRow_24 : decode cX9_tryRow 24 = .ok (.iadd, 1) := by decide +kernel
theorem dX9_tryRow_25 : decode cX9_tryRow 25 = .ok (.iconst 1, 1) := by decide +kernel
theorem dX9_tryRow_26 : decode cX9_tryRow 26 = .ok (.invokevirtual 245, 3) := by decide +kernel
theorem dX9_tryRow_29 : decode cX9_tryRow 29 = .ok (.istore_n 2, 1) := by decide +kernel
theorem dX9_tryRow_30 : decode cX9_tryRow 30 = .ok (.goto (-28), 3) := by decide +kernel
theorem dX9_tryRow_33 : decode cX9_tryRow 33 = .ok (.iload_n 2, 1) := by decide +kernel
theorem dX9_tryRow_34 : decode cX9_tryRow 34 = .ok (.ifCond .eq 9, 3) := by decide +kernel
theorem dX9_tryRow_37 : decode cX9_tryRow 37 = .ok (.iload_n 1, 1) := by decide +kernel
theorem dX9_tryRow_38 : decode cX9_tryRow 38 = .ok (.iconst 1, 1) := by decide +kernel
theorem dX9_tryRow_39 : decode cX9_tryRow 39 = .ok (.iadd, 1) := by decide +kernel
theorem dX9_tryRow_40 : decode cX9_tryRow 40 = .ok (.goto 6, 3) := by decide +kernel
theorem dX9_tryRow_43 : decode cX9_tryRow 43 = .ok (.iload_n 1, 1) := by decide +kernel
theorem dX9_tryRow_44 : decode cX9_tryRow 44 = .ok (.iconst 1, 1) := by decide +kernel
theorem dX9_tryRow_45 : decode cX9_tryRow 45 = .ok (.isub, 1) := by decide +kernel
theorem dX9_tryRow_46 : decode cX9_tryRow 46 = .ok (.ireturn, 1) := by decide +kernel
theorem dX9_mayBook_0 : decode cX9_mayBook 0 = .ok (.aload_n 0, 1) := by decide +kernel
theorem dX9_mayBook_1 : decode cX9_mayBook 1 = .ok (.getfield 68, 3) := by decide +kernel
theorem dX9_mayBook_4 : decode cX9_mayBook 4 = .ok (.iconst (-1), 1) := by decide +kernel
theorem dX9_mayBook_5 : decode cX9_mayBook 5 = .ok (.if_icmp .eq 16, 3) := by decide +kernel
theorem dX9_mayBook_8 : decode cX9_mayBook 8 = .ok (.aload_n 0, 1) := by decide +kernel
theorem dX9_mayBook_9 : decode cX9_mayBook 9 = .ok (.getfield 298, 3) := by decide +kernel
theorem dX9_mayBook_12 : decode cX9_mayBook 12 = .ok (.bipush 40, 2) := by decide +kernel
theorem dX9_mayBook_14 : decode cX9_mayBook 14 = .ok (.if_icmp .ge 7, 3) := by decide +kernel
theorem dX9_mayBook_17 : decode cX9_mayBook 17 = .ok (.iconst 1, 1) := by decide +kernel
theorem dX9_mayBook_18 : decode cX9_mayBook 18 = .ok (.goto 4, 3) := by decide +kernel
theorem dX9_mayBook_21 : decode cX9_mayBook 21 = .ok (.iconst 0, 1) := by decide +kernel
theorem dX9_mayBook_22 : decode cX9_mayBook 22 = .ok (.ireturn, 1) := by decide +kernel
theorem dX9_ways_0 : decode cX9_ways 0 = .ok (.aload_n 0, 1) := by decide +kernel
theorem dX9_ways_1 : decode cX9_ways 1 = .ok (.invokevirtual 301, 3) := by decide +kernel
theorem dX9_ways_4 : decode cX9_ways 4 = .ok (.ifCond .ne 6, 3) := by decide +kernel
theorem dX9_ways_7 : decode cX9_ways 7 = .ok (.bipush (-103), 2) := by decide +kernel
theorem dX9_ways_9 : decode cX9_ways 9 = .ok (.ireturn, 1) := by decide +kernel
theorem dX9_ways_10 : decode cX9_ways 10 = .ok (.aload_n 0, 1) := by decide +kernel
theorem dX9_ways_11 : decode cX9_ways 11 = .ok (.dup, 1) := by decide +kernel
theorem dX9_ways_12 : decode cX9_ways 12 = .ok (.getfield 298, 3) := by decide +kernel
theorem dX9_ways_15 : decode cX9_ways 15 = .ok (.iconst 1, 1) := by decide +kernel
theorem dX9_ways_16 : decode cX9_ways 16 = .ok (.iadd, 1) := by decide +kernel
theorem dX9_ways_17 : decode cX9_ways 17 = .ok (.putfield 298, 3) := by decide +kernel
theorem dX9_ways_20 : decode cX9_ways 20 = .ok (.aload_n 0, 1) := by decide +kernel
theorem dX9_ways_21 : decode cX9_ways 21 = .ok (.invokevirtual 305, 3) := by decide +kernel
theorem dX9_ways_24 : decode cX9_ways 24 = .ok (.aload_n 0, 1) := by decide +kernel
theorem dX9_ways_25 : decode cX9_ways 25 = .ok (.getfield 289, 3) := by decide +kernel
theorem dX9_ways_28 : decode cX9_ways 28 = .ok (.ireturn, 1) := by decide +kernel
theorem dX9_owed_0 : decode cX9_owed 0 = .ok (.aload_n 0, 1) := by decide +kernel
theorem dX9_owed_1 : decode cX9_owed 1 = .ok (.invokevirtual 301, 3) := by decide +kernel
theorem dX9_owed_4 : decode cX9_owed 4 = .ok (.ifCond .ne 6, 3) := by decide +kernel
theorem dX9_owed_7 : decode cX9_owed 7 = .ok (.bipush (-103), 2) := by decide +kernel
theorem dX9_owed_9 : decode cX9_owed 9 = .ok (.ireturn, 1) := by decide +kernel
theorem dX9_owed_10 : decode cX9_owed 10 = .ok (.aload_n 0, 1) := by decide +kernel
theorem dX9_owed_11 : decode cX9_owed 11 = .ok (.dup, 1) := by decide +kernel
theorem dX9_owed_12 : decode cX9_owed 12 = .ok (.getfield 298, 3) := by decide +kernel
theorem dX9_owed_15 : decode cX9_owed 15 = .ok (.iconst 1, 1) := by decide +kernel
theorem dX9_owed_16 : decode cX9_owed 16 = .ok (.iadd, 1) := by decide +kernel
theorem dX9_owed_17 : decode cX9_owed 17 = .ok (.putfield 298, 3) := by decide +kernel
theorem dX9_owed_20 : decode cX9_owed 20 = .ok (.aload_n 0, 1) := by decide +kernel
theorem dX9_owed_21 : decode cX9_owed 21 = .ok (.invokevirtual 305, 3) := by decide +kernel
theorem dX9_owed_24 : decode cX9_owed 24 = .ok (.aload_n 0, 1) := by decide +kernel
theorem dX9_owed_25 : decode cX9_owed 25 = .ok (.getfield 292, 3) := by decide +kernel
theorem dX9_owed_28 : decode cX9_owed 28 = .ok (.ireturn, 1) := by decide +kernel
theorem dX9_save_0 : decode cX9_save 0 = .ok (.aload_n 0, 1) := by decide +kernel
theorem dX9_save_1 : decode cX9_save 1 = .ok (.aload_n 0, 1) := by decide +kernel
theorem dX9_save_2 : decode cX9_save 2 = .ok (.getfield 171, 3) := by decide +kernel
theorem dX9_save_5 : decode cX9_save 5 = .ok (.putfield 308, 3) := by decide +kernel
theorem dX9_save_8 : decode cX9_save 8 = .ok (.iconst 0, 1) := by decide +kernel
theorem dX9_save_9 : decode cX9_save 9 = .ok (.istore_n 1, 1) := by decide +kernel
theorem dX9_save_10 : decode cX9_save 10 = .ok (.iload_n 1, 1) := by decide +kernel
theorem dX9_save_11 : decode cX9_save 11 = .ok (.iconst 4, 1) := by decide +kernel
theorem dX9_save_12 : decode cX9_save 12 = .ok (.if_icmp .ge 57, 3) := by decide +kernel
theorem dX9_save_15 : decode cX9_save 15 = .ok (.aload_n 0, 1) := by decide +kernel
theorem dX9_save_16 : decode cX9_save 16 = .ok (.getfield 78, 3) := by decide +kernel
theorem dX9_save_19 : decode cX9_save 19 = .ok (.iload_n 1, 1) := by decide +kernel
theorem dX9_save_20 : decode cX9_save 20 = .ok (.aload_n 0, 1) := by decide +kernel
theorem dX9_save_21 : decode cX9_save 21 = .ok (.getfield 22, 3) := by decide +kernel
theorem dX9_save_24 : decode cX9_save 24 = .ok (.iload_n 1, 1) := by decide +kernel
theorem dX9_save_25 : decode cX9_save 25 = .ok (.iaload, 1) := by decide +kernel
theorem dX9_save_26 : decode cX9_save 26 = .ok (.iastore, 1) := by decide +kernel
theorem dX9_save_27 : decode cX9_save 27 = .ok (.aload_n 0, 1) := by decide +kernel
theorem dX9_save_28 : decode cX9_save 28 = .ok (.getfield 81, 3) := by decide +kernel
theorem dX9_save_31 : decode cX9_save 31 = .ok (.iload_n 1, 1) := by decide +kernel
theorem dX9_save_32 : decode cX9_save 32 = .ok (.aload_n 0, 1) := by decide +kernel
theorem dX9_save_33 : decode cX9_save 33 = .ok (.getfield 25, 3) := by decide +kernel
theorem dX9_save_36 : decode cX9_save 36 = .ok (.iload_n 1, 1) := by decide +kernel
theorem dX9_save_37 : decode cX9_save 37 = .ok (.iaload, 1) := by decide +kernel
theorem dX9_save_38 : decode cX9_save 38 = .ok (.iastore, 1) := by decide +kernel
theorem dX9_save_39 : decode cX9_save 39 = .ok (.aload_n 0, 1) := by decide +kernel
theorem dX9_save_40 : decode cX9_save 40 = .ok (.getfield 84, 3) := by decide +kernel
theorem dX9_save_43 : decode cX9_save 43 = .ok (.iload_n 1, 1) := by decide +kernel
theorem dX9_save_44 : decode cX9_save 44 = .ok (.aload_n 0, 1) := by decide +kernel
theorem dX9_save_45 : decode cX9_save 45 = .ok (.getfield 28, 3) := by decide +kernel
theorem dX9_save_48 : decode cX9_save 48 = .ok (.iload_n 1, 1) := by decide +kernel
theorem dX9_save_49 : decode cX9_save 49 = .ok (.iaload, 1) := by decide +kernel
theorem dX9_save_50 : decode cX9_save 50 = .ok (.iastore, 1) := by decide +kernel
theorem dX9_save_51 : decode cX9_save 51 = .ok (.aload_n 0, 1) := by decide +kernel
theorem dX9_save_52 : decode cX9_save 52 = .ok (.getfield 87, 3) := by decide +kernel
theorem dX9_save_55 : decode cX9_save 55 = .ok (.iload_n 1, 1) := by decide +kernel
theorem dX9_save_56 : decode cX9_save 56 = .ok (.aload_n 0, 1) := by decide +kernel
theorem dX9_save_57 : decode cX9_save 57 = .ok (.getfield 34, 3) := by decide +kernel
theorem dX9_save_60 : decode cX9_save 60 = .ok (.iload_n 1, 1) := by decide +kernel
theorem dX9_save_61 : decode cX9_save 61 = .ok (.iaload, 1) := by decide +kernel
theorem dX9_save_62 : decode cX9_save 62 = .ok (.iastore, 1) := by decide +kernel
theorem dX9_save_63 : decode cX9_save 63 = .ok (.iinc 1 1, 3) := by decide +kernel
theorem dX9_save_66 : decode cX9_save 66 = .ok (.goto (-56), 3) := by decide +kernel
theorem dX9_save_69 : decode cX9_save 69 = .ok (.iconst 0, 1) := by decide +kernel
theorem dX9_save_70 : decode cX9_save 70 = .ok (.istore_n 1, 1) := by decide +kernel
theorem dX9_save_71 : decode cX9_save 71 = .ok (.iload_n 1, 1) := by decide +kernel
theorem dX9_save_72 : decode cX9_save 72 = .ok (.bipush 48, 2) := by decide +kernel
theorem dX9_save_74 : decode cX9_save 74 = .ok (.if_icmp .ge 21, 3) := by decide +kernel
theorem dX9_save_77 : decode cX9_save 77 = .ok (.aload_n 0, 1) := by decide +kernel
theorem dX9_save_78 : decode cX9_save 78 = .ok (.getfield 90, 3) := by decide +kernel
theorem dX9_save_81 : decode cX9_save 81 = .ok (.iload_n 1, 1) := by decide +kernel
theorem dX9_save_82 : decode cX9_save 82 = .ok (.aload_n 0, 1) := by decide +kernel
theorem dX9_save_83 : decode cX9_save 83 = .ok (.getfield 37, 3) := by decide +kernel
theorem dX9_save_86 : decode cX9_save 86 = .ok (.iload_n 1, 1) := by decide +kernel
theorem dX9_save_87 : decode cX9_save 87 = .ok (.iaload, 1) := by decide +kernel
theorem dX9_save_88 : decode cX9_save 88 = .ok (.iastore, 1) := by decide +kernel
theorem dX9_save_89 : decode cX9_save 89 = .ok (.iinc 1 1, 3) := by decide +kernel
theorem dX9_save_92 : decode cX9_save 92 = .ok (.goto (-21), 3) := by decide +kernel
theorem dX9_save_95 : decode cX9_save 95 = .ok (.return_, 1) := by decide +kernel
theorem dX9_back_0 : decode cX9_back 0 = .ok (.aload_n 0, 1) := by decide +kernel
theorem dX9_back_1 : decode cX9_back 1 = .ok (.aload_n 0, 1) := by decide +kernel
theorem dX9_back_2 : decode cX9_back 2 = .ok (.getfield 308, 3) := by decide +kernel
theorem dX9_back_5 : decode cX9_back 5 = .ok (.putfield 171, 3) := by decide +kernel
theorem dX9_back_8 : decode cX9_back 8 = .ok (.iconst 0, 1) := by decide +kernel
theorem dX9_back_9 : decode cX9_back 9 = .ok (.istore_n 1, 1) := by decide +kernel
theorem dX9_back_10 : decode cX9_back 10 = .ok (.iload_n 1, 1) := by decide +kernel
theorem dX9_back_11 : decode cX9_back 11 = .ok (.iconst 4, 1) := by decide +kernel
theorem dX9_back_12 : decode cX9_back 12 = .ok (.if_icmp .ge 57, 3) := by decide +kernel
theorem dX9_back_15 : decode cX9_back 15 = .ok (.aload_n 0, 1) := by decide +kernel
theorem dX9_back_16 : decode cX9_back 16 = .ok (.getfield 22, 3) := by decide +kernel
theorem dX9_back_19 : decode cX9_back 19 = .ok (.iload_n 1, 1) := by decide +kernel
theorem dX9_back_20 : decode cX9_back 20 = .ok (.aload_n 0, 1) := by decide +kernel
theorem dX9_back_21 : decode cX9_back 21 = .ok (.getfield 78, 3) := by decide +kernel
theorem dX9_back_24 : decode cX9_back 24 = .ok (.iload_n 1, 1) := by decide +kernel
theorem dX9_back_25 : decode cX9_back 25 = .ok (.iaload, 1) := by decide +kernel
theorem dX9_back_26 : decode cX9_back 26 = .ok (.iastore, 1) := by decide +kernel
theorem dX9_back_27 : decode cX9_back 27 = .ok (.aload_n 0, 1) := by decide +kernel
theorem dX9_back_28 : decode cX9_back 28 = .ok (.getfield 25, 3) := by decide +kernel
theorem dX9_back_31 : decode cX9_back 31 = .ok (.iload_n 1, 1) := by decide +kernel
theorem dX9_back_32 : decode cX9_back 32 = .ok (.aload_n 0, 1) := by decide +kernel
theorem dX9_back_33 : decode cX9_back 33 = .ok (.getfield 81, 3) := by decide +kernel
theorem dX9_back_36 : decode cX9_back 36 = .ok (.iload_n 1, 1) := by decide +kernel
theorem dX9_back_37 : decode cX9_back 37 = .ok (.iaload, 1) := by decide +kernel
theorem dX9_back_38 : decode cX9_back 38 = .ok (.iastore, 1) := by decide +kernel
theorem dX9_back_39 : decode cX9_back 39 = .ok (.aload_n 0, 1) := by decide +kernel
theorem dX9_back_40 : decode cX9_back 40 = .ok (.getfield 28, 3) := by decide +kernel
theorem dX9_back_43 : decode cX9_back 43 = .ok (.iload_n 1, 1) := by decide +kernel
theorem dX9_back_44 : decode cX9_back 44 = .ok (.aload_n 0, 1) := by decide +kernel
theorem dX9_back_45 : decode cX9_back 45 = .ok (.getfield 84, 3) := by decide +kernel
theorem dX9_back_48 : decode cX9_back 48 = .ok (.iload_n 1, 1) := by decide +kernel
theorem dX9_back_49 : decode cX9_back 49 = .ok (.iaload, 1) := by decide +kernel
theorem dX9_back_50 : decode cX9_back 50 = .ok (.iastore, 1) := by decide +kernel
theorem dX9_back_51 : decode cX9_back 51 = .ok (.aload_n 0, 1) := by decide +kernel
theorem dX9_back_52 : decode cX9_back 52 = .ok (.getfield 34, 3) := by decide +kernel
theorem dX9_back_55 : decode cX9_back 55 = .ok (.iload_n 1, 1) := by decide +kernel
theorem dX9_back_56 : decode cX9_back 56 = .ok (.aload_n 0, 1) := by decide +kernel
theorem dX9_back_57 : decode cX9_back 57 = .ok (.getfield 87, 3) := by decide +kernel
theorem dX9_back_60 : decode cX9_back 60 = .ok (.iload_n 1, 1) := by decide +kernel
theorem dX9_back_61 : decode cX9_back 61 = .ok (.iaload, 1) := by decide +kernel
theorem dX9_back_62 : decode cX9_back 62 = .ok (.iastore, 1) := by decide +kernel
theorem dX9_back_63 : decode cX9_back 63 = .ok (.iinc 1 1, 3) := by decide +kernel
theorem dX9_back_66 : decode cX9_back 66 = .ok (.goto (-56), 3) := by decide +kernel
theorem dX9_back_69 : decode cX9_back 69 = .ok (.iconst 0, 1) := by decide +kernel
theorem dX9_back_70 : decode cX9_back 70 = .ok (.istore_n 1, 1) := by decide +kernel
theorem dX9_back_71 : decode cX9_back 71 = .ok (.iload_n 1, 1) := by decide +kernel
theorem dX9_back_72 : decode cX9_back 72 = .ok (.bipush 48, 2) := by decide +kernel
theorem dX9_back_74 : decode cX9_back 74 = .ok (.if_icmp .ge 21, 3) := by decide +kernel
theorem dX9_back_77 : decode cX9_back 77 = .ok (.aload_n 0, 1) := by decide +kernel
theorem dX9_back_78 : decode cX9_back 78 = .ok (.getfield 37, 3) := by decide +kernel
theorem dX9_back_81 : decode cX9_back 81 = .ok (.iload_n 1, 1) := by decide +kernel
theorem dX9_back_82 : decode cX9_back 82 = .ok (.aload_n 0, 1) := by decide +kernel
theorem dX9_back_83 : decode cX9_back 83 = .ok (.getfield 90, 3) := by decide +kernel
theorem dX9_back_86 : decode cX9_back 86 = .ok (.iload_n 1, 1) := by decide +kernel
theorem dX9_back_87 : decode cX9_back 87 = .ok (.iaload, 1) := by decide +kernel
theorem dX9_back_88 : decode cX9_back 88 = .ok (.iastore, 1) := by decide +kernel
theorem dX9_back_89 : decode cX9_back 89 = .ok (.iinc 1 1, 3) := by decide +kernel
theorem dX9_back_92 : decode cX9_back 92 = .ok (.goto (-21), 3) := by decide +kernel
theorem dX9_back_95 : decode cX9_back 95 = .ok (.return_, 1) := by decide +kernel
theorem dX9_draw_0 : decode cX9_draw 0 = .ok (.aload_n 0, 1) := by decide +kernel
theorem dX9_draw_1 : decode cX9_draw 1 = .ok (.ldc2_w 311, 3) := by decide +kernel
theorem dX9_draw_4 : decode cX9_draw 4 = .ok (.aload_n 0, 1) := by decide +kernel
theorem dX9_draw_5 : decode cX9_draw 5 = .ok (.getfield 313, 3) := by decide +kernel
theorem dX9_draw_8 : decode cX9_draw 8 = .ok (.lmul, 1) := by decide +kernel
theorem dX9_draw_9 : decode cX9_draw 9 = .ok (.ldc2_w 317, 3) := by decide +kernel
theorem dX9_draw_12 : decode cX9_draw 12 = .ok (.ladd, 1) := by decide +kernel
theorem dX9_draw_13 : decode cX9_draw 13 = .ok (.ldc2_w 319, 3) := by decide +kernel
theorem dX9_draw_16 : decode cX9_draw 16 = .ok (.land, 1) := by decide +kernel
theorem dX9_draw_17 : decode cX9_draw 17 = .ok (.putfield 313, 3) := by decide +kernel
theorem dX9_draw_20 : decode cX9_draw 20 = .ok (.aload_n 0, 1) := by decide +kernel
theorem dX9_draw_21 : decode cX9_draw 21 = .ok (.getfield 313, 3) := by decide +kernel
theorem dX9_draw_24 : decode cX9_draw 24 = .ok (.ldc2_w 321, 3) := by decide +kernel
theorem dX9_draw_27 : decode cX9_draw 27 = .ok (.ldiv, 1) := by decide +kernel
theorem dX9_draw_28 : decode cX9_draw 28 = .ok (.iload_n 1, 1) := by decide +kernel
theorem dX9_draw_29 : decode cX9_draw 29 = .ok (.i2l, 1) := by decide +kernel
theorem dX9_draw_30 : decode cX9_draw 30 = .ok (.lrem, 1) := by decide +kernel
theorem dX9_draw_31 : decode cX9_draw 31 = .ok (.l2i, 1) := by decide +kernel
theorem dX9_draw_32 : decode cX9_draw 32 = .ok (.ireturn, 1) := by decide +kernel
theorem dX9_gotAll_0 : decode cX9_gotAll 0 = .ok (.iconst 0, 1) := by decide +kernel
theorem dX9_gotAll_1 : decode cX9_gotAll 1 = .ok (.istore_n 1, 1) := by decide +kernel
theorem dX9_gotAll_2 : decode cX9_gotAll 2 = .ok (.iconst 0, 1) := by decide +kernel
theorem dX9_gotAll_3 : decode cX9_gotAll 3 = .ok (.istore_n 2, 1) := by decide +kernel
theorem dX9_gotAll_4 : decode cX9_gotAll 4 = .ok (.iload_n 2, 1) := by decide +kernel
theorem dX9_gotAll_5 : decode cX9_gotAll 5 = .ok (.aload_n 0, 1) := by decide +kernel
theorem dX9_gotAll_6 : decode cX9_gotAll 6 = .ok (.getfield 168, 3) := by decide +kernel
theorem dX9_gotAll_9 : decode cX9_gotAll 9 = .ok (.if_icmp .ge 18, 3) := by decide +kernel
theorem dX9_gotAll_12 : decode cX9_gotAll 12 = .ok (.iload_n 1, 1) := by decide +kernel
theorem dX9_gotAll_13 : decode cX9_gotAll 13 = .ok (.aload_n 0, 1) := by decide +kernel
theorem dX9_gotAll_14 : decode cX9_gotAll 14 = .ok (.getfield 22, 3) := by decide +kernel
theorem dX9_gotAll_17 : decode cX9_gotAll 17 = .ok (.iload_n 2, 1) := by decide +kernel
theorem dX9_gotAll_18 : decode cX9_gotAll 18 = .ok (.iaload, 1) := by decide +kernel
theorem dX9_gotAll_19 : decode cX9_gotAll 19 = .ok (.iadd, 1) := by decide +kernel
theorem dX9_gotAll_20 : decode cX9_gotAll 20 = .ok (.istore_n 1, 1) := by decide +kernel
theorem dX9_gotAll_21 : decode cX9_gotAll 21 = .ok (.iinc 2 1, 3) := by decide +kernel
theorem dX9_gotAll_24 : decode cX9_gotAll 24 = .ok (.goto (-20), 3) := by decide +kernel
theorem dX9_gotAll_27 : decode cX9_gotAll 27 = .ok (.iload_n 1, 1) := by decide +kernel
theorem dX9_gotAll_28 : decode cX9_gotAll 28 = .ok (.ireturn, 1) := by decide +kernel
theorem dX9_yearsNow_0 : decode cX9_yearsNow 0 = .ok (.aload_n 0, 1) := by decide +kernel
theorem dX9_yearsNow_1 : decode cX9_yearsNow 1 = .ok (.invokevirtual 323, 3) := by decide +kernel
theorem dX9_yearsNow_4 : decode cX9_yearsNow 4 = .ok (.aload_n 0, 1) := by decide +kernel
theorem dX9_yearsNow_5 : decode cX9_yearsNow 5 = .ok (.iload_n 2, 1) := by decide +kernel
theorem dX9_yearsNow_6 : decode cX9_yearsNow 6 = .ok (.i2l, 1) := by decide +kernel
theorem dX9_yearsNow_7 : decode cX9_yearsNow 7 = .ok (.putfield 313, 3) := by decide +kernel
theorem dX9_yearsNow_10 : decode cX9_yearsNow 10 = .ok (.iconst 0, 1) := by decide +kernel
theorem dX9_yearsNow_11 : decode cX9_yearsNow 11 = .ok (.istore 4, 2) := by decide +kernel
theorem dX9_yearsNow_13 : decode cX9_yearsNow 13 = .ok (.iconst 0, 1) := by decide +kernel
theorem dX9_yearsNow_14 : decode cX9_yearsNow 14 = .ok (.istore 5, 2) := by decide +kernel
theorem dX9_yearsNow_16 : decode cX9_yearsNow 16 = .ok (.iload 5, 2) := by decide +kernel
theorem dX9_yearsNow_18 : decode cX9_yearsNow 18 = .ok (.iload_n 1, 1) := by decide +kernel
theorem dX9_yearsNow_19 : decode cX9_yearsNow 19 = .ok (.if_icmp .ge 114, 3) := by decide +kernel
theorem dX9_yearsNow_22 : decode cX9_yearsNow 22 = .ok (.iconst 0, 1) := by decide +kernel
theorem dX9_yearsNow_23 : decode cX9_yearsNow 23 = .ok (.istore 6, 2) := by decide +kernel
theorem dX9_yearsNow_25 : decode cX9_yearsNow 25 = .ok (.iload 6, 2) := by decide +kernel
theorem dX9_yearsNow_27 : decode cX9_yearsNow 27 = .ok (.aload_n 0, 1) := by decide +kernel
theorem dX9_yearsNow_28 : decode cX9_yearsNow 28 = .ok (.getfield 168, 3) := by decide +kernel
theorem dX9_yearsNow_31 : decode cX9_yearsNow 31 = .ok (.if_icmp .ge 92, 3) := by decide +kernel
theorem dX9_yearsNow_34 : decode cX9_yearsNow 34 = .ok (.aload_n 0, 1) := by decide +kernel
theorem dX9_yearsNow_35 : decode cX9_yearsNow 35 = .ok (.getfield 31, 3) := by decide +kernel
theorem dX9_yearsNow_38 : decode cX9_yearsNow 38 = .ok (.iload 6, 2) := by decide +kernel
theorem dX9_yearsNow_40 : decode cX9_yearsNow 40 = .ok (.iaload, 1) := by decide +kernel
theorem dX9_yearsNow_41 : decode cX9_yearsNow 41 = .ok (.iconst 1, 1) := by decide +kernel
theorem dX9_yearsNow_42 : decode cX9_yearsNow 42 = .ok (.if_icmp .ne 8, 3) := by decide +kernel
theorem dX9_yearsNow_45 : decode cX9_yearsNow 45 = .ok (.bipush 9, 2) := by decide +kernel
theorem dX9_yearsNow_47 : decode cX9_yearsNow 47 = .ok (.goto 13, 3) := by decide +kernel
theorem dX9_yearsNow_50 : decode cX9_yearsNow 50 = .ok (.aload_n 0, 1) := by decide +kernel
theorem dX9_yearsNow_51 : decode cX9_yearsNow 51 = .ok (.bipush 12, 2) := by decide +kernel
theorem dX9_yearsNow_53 : decode cX9_yearsNow 53 = .ok (.invokevirtual 326, 3) := by decide +kernel
theorem dX9_yearsNow_56 : decode cX9_yearsNow 56 = .ok (.iconst 1, 1) := by decide +kernel
theorem dX9_yearsNow_57 : decode cX9_yearsNow 57 = .ok (.invokestatic 241, 3) := by decide +kernel
theorem dX9_yearsNow_60 : decode cX9_yearsNow 60 = .ok (.istore 7, 2) := by decide +kernel
theorem dX9_yearsNow_62 : decode cX9_yearsNow 62 = .ok (.iload 7, 2) := by decide +kernel
theorem dX9_yearsNow_64 : decode cX9_yearsNow 64 = .ok (.bipush 9, 2) := by decide +kernel
theorem dX9_yearsNow_66 : decode cX9_yearsNow 66 = .ok (.if_icmp .eq 51, 3) := by decide +kernel
theorem dX9_yearsNow_69 : decode cX9_yearsNow 69 = .ok (.aload_n 0, 1) := by decide +kernel
theorem dX9_yearsNow_70 : decode cX9_yearsNow 70 = .ok (.iload 6, 2) := by decide +kernel
theorem dX9_yearsNow_72 : decode cX9_yearsNow 72 = .ok (.iload 7, 2) := by decide +kernel
theorem dX9_yearsNow_74 : decode cX9_yearsNow 74 = .ok (.invokevirtual 215, 3) := by decide +kernel
theorem dX9_yearsNow_77 : decode cX9_yearsNow 77 = .ok (.ifCond .eq 40, 3) := by decide +kernel
theorem dX9_yearsNow_80 : decode cX9_yearsNow 80 = .ok (.aload_n 0, 1) := by decide +kernel
theorem dX9_yearsNow_81 : decode cX9_yearsNow 81 = .ok (.iload 6, 2) := by decide +kernel
theorem dX9_yearsNow_83 : decode cX9_yearsNow 83 = .ok (.iload 7, 2) := by decide +kernel
theorem dX9_yearsNow_85 : decode cX9_yearsNow 85 = .ok (.aload_n 0, 1) := by decide +kernel
theorem dX9_yearsNow_86 : decode cX9_yearsNow 86 = .ok (.getfield 171, 3) := by decide +kernel
theorem dX9_yearsNow_89 : decode cX9_yearsNow 89 = .ok (.invokevirtual 218, 3) := by decide +kernel
theorem dX9_yearsNow_92 : decode cX9_yearsNow 92 = .ok (.aload_n 0, 1) := by decide +kernel
theorem dX9_yearsNow_93 : decode cX9_yearsNow 93 = .ok (.getfield 28, 3) := by decide +kernel
theorem dX9_yearsNow_96 : decode cX9_yearsNow 96 = .ok (.iload 6, 2) := by decide +kernel
theorem dX9_yearsNow_98 : decode cX9_yearsNow 98 = .ok (.iconst 1, 1) := by decide +kernel
theorem dX9_yearsNow_99 : decode cX9_yearsNow 99 = .ok (.iastore, 1) := by decide +kernel
theorem dX9_yearsNow_100 : decode cX9_yearsNow 100 = .ok (.iload 4, 2) := by decide +kernel
theorem dX9_yearsNow_102 : decode cX9_yearsNow 102 = .ok (.iload 7, 2) := by decide +kernel
theorem dX9_yearsNow_104 : decode cX9_yearsNow 104 = .ok (.bipush 10, 2) := by decide +kernel
theorem dX9_yearsNow_106 : decode cX9_yearsNow 106 = .ok (.if_icmp .lt 7, 3) := by decide +kernel
theorem dX9_yearsNow_109 : decode cX9_yearsNow 109 = .ok (.iconst 1, 1) := by decide +kernel
theorem dX9_yearsNow_110 : decode cX9_yearsNow 110 = .ok (.goto 4, 3) := by decide +kernel
theorem dX9_yearsNow_113 : decode cX9_yearsNow 113 = .ok (.iconst 0, 1) := by decide +kernel
theorem dX9_yearsNow_114 : decode cX9_yearsNow 114 = .ok (.iadd, 1) := by decide +kernel
theorem dX9_yearsNow_115 : decode cX9_yearsNow 115 = .ok (.istore 4, 2) := by decide +kernel
theorem dX9_yearsNow_117 : decode cX9_yearsNow 117 = .ok (.iinc 6 1, 3) := by decide +kernel
theorem dX9_yearsNow_120 : decode cX9_yearsNow 120 = .ok (.goto (-95), 3) := by decide +kernel
theorem dX9_yearsNow_123 : decode cX9_yearsNow 123 = .ok (.aload_n 0, 1) := by decide +kernel
theorem dX9_yearsNow_124 : decode cX9_yearsNow 124 = .ok (.invokevirtual 221, 3) := by decide +kernel
theorem dX9_yearsNow_127 : decode cX9_yearsNow 127 = .ok (.iinc 5 1, 3) := by decide +kernel
theorem dX9_yearsNow_130 : decode cX9_yearsNow 130 = .ok (.goto (-114), 3) := by decide +kernel
theorem dX9_yearsNow_133 : decode cX9_yearsNow 133 = .ok (.iload_n 3, 1) := by decide +kernel
theorem dX9_yearsNow_134 : decode cX9_yearsNow 134 = .ok (.ifCond .ne 10, 3) := by decide +kernel
theorem dX9_yearsNow_137 : decode cX9_yearsNow 137 = .ok (.aload_n 0, 1) := by decide +kernel
theorem dX9_yearsNow_138 : decode cX9_yearsNow 138 = .ok (.invokevirtual 329, 3) := by decide +kernel
theorem dX9_yearsNow_141 : decode cX9_yearsNow 141 = .ok (.goto 30, 3) := by decide +kernel
theorem dX9_yearsNow_144 : decode cX9_yearsNow 144 = .ok (.iload_n 3, 1) := by decide +kernel
theorem dX9_yearsNow_145 : decode cX9_yearsNow 145 = .ok (.iconst 1, 1) := by decide +kernel
theorem dX9_yearsNow_146 : decode cX9_yearsNow 146 = .ok (.if_icmp .ne 10, 3) := by decide +kernel
theorem dX9_yearsNow_149 : decode cX9_yearsNow 149 = .ok (.aload_n 0, 1) := by decide +kernel
theorem dX9_yearsNow_150 : decode cX9_yearsNow 150 = .ok (.invokevirtual 224, 3) := by decide +kernel
theorem dX9_yearsNow_153 : decode cX9_yearsNow 153 = .ok (.goto 18, 3) := by decide +kernel
theorem dX9_yearsNow_156 : decode cX9_yearsNow 156 = .ok (.iload_n 3, 1) := by decide +kernel
theorem dX9_yearsNow_157 : decode cX9_yearsNow 157 = .ok (.iconst 2, 1) := by decide +kernel
theorem dX9_yearsNow_158 : decode cX9_yearsNow 158 = .ok (.if_icmp .ne 8, 3) := by decide +kernel
theorem dX9_yearsNow_161 : decode cX9_yearsNow 161 = .ok (.iload 4, 2) := by decide +kernel
theorem dX9_yearsNow_163 : decode cX9_yearsNow 163 = .ok (.goto 8, 3) := by decide +kernel
theorem dX9_yearsNow_166 : decode cX9_yearsNow 166 = .ok (.aload_n 0, 1) := by decide +kernel
theorem dX9_yearsNow_167 : decode cX9_yearsNow 167 = .ok (.getfield 313, 3) := by decide +kernel
theorem dX9_yearsNow_170 : decode cX9_yearsNow 170 = .ok (.l2i, 1) := by decide +kernel
theorem dX9_yearsNow_171 : decode cX9_yearsNow 171 = .ok (.istore 5, 2) := by decide +kernel
theorem dX9_yearsNow_173 : decode cX9_yearsNow 173 = .ok (.aload_n 0, 1) := by decide +kernel
theorem dX9_yearsNow_174 : decode cX9_yearsNow 174 = .ok (.invokevirtual 332, 3) := by decide +kernel
theorem dX9_yearsNow_177 : decode cX9_yearsNow 177 = .ok (.iload 5, 2) := by decide +kernel
theorem dX9_yearsNow_179 : decode cX9_yearsNow 179 = .ok (.ireturn, 1) := by decide +kernel
theorem dX9_years_0 : decode cX9_years 0 = .ok (.iload_n 1, 1) := by decide +kernel
theorem dX9_years_1 : decode cX9_years 1 = .ok (.iconst 1, 1) := by decide +kernel
theorem dX9_years_2 : decode cX9_years 2 = .ok (.bipush 60, 2) := by decide +kernel
theorem dX9_years_4 : decode cX9_years 4 = .ok (.invokestatic 111, 3) := by decide +kernel
theorem dX9_years_7 : decode cX9_years 7 = .ok (.ifCond .eq 16, 3) := by decide +kernel
theorem dX9_years_10 : decode cX9_years 10 = .ok (.iload_n 2, 1) := by decide +kernel
theorem dX9_years_11 : decode cX9_years 11 = .ok (.ifCond .lt 12, 3) := by decide +kernel
theorem dX9_years_14 : decode cX9_years 14 = .ok (.iload_n 3, 1) := by decide +kernel
theorem dX9_years_15 : decode cX9_years 15 = .ok (.iconst 0, 1) := by decide +kernel
theorem dX9_years_16 : decode cX9_years 16 = .ok (.iconst 3, 1) := by decide +kernel
theorem dX9_years_17 : decode cX9_years 17 = .ok (.invokestatic 111, 3) := by decide +kernel
theorem dX9_years_20 : decode cX9_years 20 = .ok (.ifCond .ne 6, 3) := by decide +kernel
theorem dX9_years_23 : decode cX9_years 23 = .ok (.bipush (-102), 2) := by decide +kernel
theorem dX9_years_25 : decode cX9_years 25 = .ok (.ireturn, 1) := by decide +kernel
theorem dX9_years_26 : decode cX9_years 26 = .ok (.aload_n 0, 1) := by decide +kernel
theorem dX9_years_27 : decode cX9_years 27 = .ok (.getfield 149, 3) := by decide +kernel
theorem dX9_years_30 : decode cX9_years 30 = .ok (.ifCond .eq 13, 3) := by decide +kernel
theorem dX9_years_33 : decode cX9_years 33 = .ok (.aload_n 0, 1) := by decide +kernel
theorem dX9_years_34 : decode cX9_years 34 = .ok (.iload_n 1, 1) := by decide +kernel
theorem dX9_years_35 : decode cX9_years 35 = .ok (.iload_n 2, 1) := by decide +kernel
theorem dX9_years_36 : decode cX9_years 36 = .ok (.iload_n 3, 1) := by decide +kernel
theorem dX9_years_37 : decode cX9_years 37 = .ok (.invokevirtual 335, 3) := by decide +kernel
theorem dX9_years_40 : decode cX9_years 40 = .ok (.goto 5, 3) := by decide +kernel
theorem dX9_years_43 : decode cX9_years 43 = .ok (.bipush (-103), 2) := by decide +kernel
theorem dX9_years_45 : decode cX9_years 45 = .ok (.ireturn, 1) := by decide +kernel
theorem dX9_image_0 : decode cX9_image 0 = .ok (.aload_n 0, 1) := by decide +kernel
theorem dX9_image_1 : decode cX9_image 1 = .ok (.iconst 1, 1) := by decide +kernel
theorem dX9_image_2 : decode cX9_image 2 = .ok (.putfield 338, 3) := by decide +kernel
theorem dX9_image_5 : decode cX9_image 5 = .ok (.aload_n 0, 1) := by decide +kernel
theorem dX9_image_6 : decode cX9_image 6 = .ok (.aload_n 0, 1) := by decide +kernel
theorem dX9_image_7 : decode cX9_image 7 = .ok (.getfield 171, 3) := by decide +kernel
theorem dX9_image_10 : decode cX9_image 10 = .ok (.putfield 341, 3) := by decide +kernel
theorem dX9_image_13 : decode cX9_image 13 = .ok (.aload_n 0, 1) := by decide +kernel
theorem dX9_image_14 : decode cX9_image 14 = .ok (.aload_n 0, 1) := by decide +kernel
theorem dX9_image_15 : decode cX9_image 15 = .ok (.getfield 168, 3) := by decide +kernel
theorem dX9_image_18 : decode cX9_image 18 = .ok (.putfield 344, 3) := by decide +kernel
theorem dX9_image_21 : decode cX9_image 21 = .ok (.iconst 0, 1) := by decide +kernel
theorem dX9_image_22 : decode cX9_image 22 = .ok (.istore_n 1, 1) := by decide +kernel
theorem dX9_image_23 : decode cX9_image 23 = .ok (.iload_n 1, 1) := by decide +kernel
theorem dX9_image_24 : decode cX9_image 24 = .ok (.iconst 4, 1) := by decide +kernel
theorem dX9_image_25 : decode cX9_image 25 = .ok (.if_icmp .ge 69, 3) := by decide +kernel
theorem dX9_image_28 : decode cX9_image 28 = .ok (.aload_n 0, 1) := by decide +kernel
theorem dX9_image_29 : decode cX9_image 29 = .ok (.getfield 93, 3) := by decide +kernel
theorem dX9_image_32 : decode cX9_image 32 = .ok (.iload_n 1, 1) := by decide +kernel
theorem dX9_image_33 : decode cX9_image 33 = .ok (.aload_n 0, 1) := by decide +kernel
theorem dX9_image_34 : decode cX9_image 34 = .ok (.getfield 22, 3) := by decide +kernel
theorem dX9_image_37 : decode cX9_image 37 = .ok (.iload_n 1, 1) := by decide +kernel
theorem dX9_image_38 : decode cX9_image 38 = .ok (.iaload, 1) := by decide +kernel
theorem dX9_image_39 : decode cX9_image 39 = .ok (.iastore, 1) := by decide +kernel
theorem dX9_image_40 : decode cX9_image 40 = .ok (.aload_n 0, 1) := by decide +kernel
theorem dX9_image_41 : decode cX9_image 41 = .ok (.getfield 96, 3) := by decide +kernel
theorem dX9_image_44 : decode cX9_image 44 = .ok (.iload_n 1, 1) := by decide +kernel
theorem dX9_image_45 : decode cX9_image 45 = .ok (.aload_n 0, 1) := by decide +kernel
theorem dX9_image_46 : decode cX9_image 46 = .ok (.getfield 25, 3) := by decide +kernel
theorem dX9_image_49 : decode cX9_image 49 = .ok (.iload_n 1, 1) := by decide +kernel
theorem dX9_image_50 : decode cX9_image 50 = .ok (.iaload, 1) := by decide +kernel
theorem dX9_image_51 : decode cX9_image 51 = .ok (.iastore, 1) := by decide +kernel
theorem dX9_image_52 : decode cX9_image 52 = .ok (.aload_n 0, 1) := by decide +kernel
theorem dX9_image_53 : decode cX9_image 53 = .ok (.getfield 99, 3) := by decide +kernel
theorem dX9_image_56 : decode cX9_image 56 = .ok (.iload_n 1, 1) := by decide +kernel
theorem dX9_image_57 : decode cX9_image 57 = .ok (.aload_n 0, 1) := by decide +kernel
theorem dX9_image_58 : decode cX9_image 58 = .ok (.getfield 28, 3) := by decide +kernel
theorem dX9_image_61 : decode cX9_image 61 = .ok (.iload_n 1, 1) := by decide +kernel
theorem dX9_image_62 : decode cX9_image 62 = .ok (.iaload, 1) := by decide +kernel
theorem dX9_image_63 : decode cX9_image 63 = .ok (.iastore, 1) := by decide +kernel
theorem dX9_image_64 : decode cX9_image 64 = .ok (.aload_n 0, 1) := by decide +kernel
theorem dX9_image_65 : decode cX9_image 65 = .ok (.getfield 102, 3) := by decide +kernel
theorem dX9_image_68 : decode cX9_image 68 = .ok (.iload_n 1, 1) := by decide +kernel
theorem dX9_image_69 : decode cX9_image 69 = .ok (.aload_n 0, 1) := by decide +kernel
theorem dX9_image_70 : decode cX9_image 70 = .ok (.getfield 31, 3) := by decide +kernel
theorem dX9_image_73 : decode cX9_image 73 = .ok (.iload_n 1, 1) := by decide +kernel
theorem dX9_image_74 : decode cX9_image 74 = .ok (.iaload, 1) := by decide +kernel
theorem dX9_image_75 : decode cX9_image 75 = .ok (.iastore, 1) := by decide +kernel
theorem dX9_image_76 : decode cX9_image 76 = .ok (.aload_n 0, 1) := by decide +kernel
theorem dX9_image_77 : decode cX9_image 77 = .ok (.getfield 105, 3) := by decide +kernel
theorem dX9_image_80 : decode cX9_image 80 = .ok (.iload_n 1, 1) := by decide +kernel
theorem dX9_image_81 : decode cX9_image 81 = .ok (.aload_n 0, 1) := by decide +kernel
theorem dX9_image_82 : decode cX9_image 82 = .ok (.getfield 34, 3) := by decide +kernel
theorem dX9_image_85 : decode cX9_image 85 = .ok (.iload_n 1, 1) := by decide +kernel
theorem dX9_image_86 : decode cX9_image 86 = .ok (.iaload, 1) := by decide +kernel
theorem dX9_image_87 : decode cX9_image 87 = .ok (.iastore, 1) := by decide +kernel
theorem dX9_image_88 : decode cX9_image 88 = .ok (.iinc 1 1, 3) := by decide +kernel
theorem dX9_image_91 : decode cX9_image 91 = .ok (.goto (-68), 3) := by decide +kernel
theorem dX9_image_94 : decode cX9_image 94 = .ok (.iconst 0, 1) := by decide +kernel
theorem dX9_image_95 : decode cX9_image 95 = .ok (.istore_n 1, 1) := by decide +kernel
theorem dX9_image_96 : decode cX9_image 96 = .ok (.iload_n 1, 1) := by decide +kernel
theorem dX9_image_97 : decode cX9_image 97 = .ok (.bipush 48, 2) := by decide +kernel
theorem dX9_image_99 : decode cX9_image 99 = .ok (.if_icmp .ge 21, 3) := by decide +kernel
theorem dX9_image_102 : decode cX9_image 102 = .ok (.aload_n 0, 1) := by decide +kernel
theorem dX9_image_103 : decode cX9_image 103 = .ok (.getfield 108, 3) := by decide +kernel
theorem dX9_image_106 : decode cX9_image 106 = .ok (.iload_n 1, 1) := by decide +kernel
theorem dX9_image_107 : decode cX9_image 107 = .ok (.aload_n 0, 1) := by decide +kernel
theorem dX9_image_108 : decode cX9_image 108 = .ok (.getfield 37, 3) := by decide +kernel
theorem dX9_image_111 : decode cX9_image 111 = .ok (.iload_n 1, 1) := by decide +kernel
theorem dX9_image_112 : decode cX9_image 112 = .ok (.iaload, 1) := by decide +kernel
theorem dX9_image_113 : decode cX9_image 113 = .ok (.iastore, 1) := by decide +kernel
theorem dX9_image_114 : decode cX9_image 114 = .ok (.iinc 1 1, 3) := by decide +kernel
theorem dX9_image_117 : decode cX9_image 117 = .ok (.goto (-21), 3) := by decide +kernel
theorem dX9_image_120 : decode cX9_image 120 = .ok (.aload_n 0, 1) := by decide +kernel
theorem dX9_image_121 : decode cX9_image 121 = .ok (.getfield 171, 3) := by decide +kernel
theorem dX9_image_124 : decode cX9_image 124 = .ok (.ireturn, 1) := by decide +kernel
theorem dX9_restore_0 : decode cX9_restore 0 = .ok (.aload_n 0, 1) := by decide +kernel
theorem dX9_restore_1 : decode cX9_restore 1 = .ok (.getfield 338, 3) := by decide +kernel
theorem dX9_restore_4 : decode cX9_restore 4 = .ok (.ifCond .ne 6, 3) := by decide +kernel
theorem dX9_restore_7 : decode cX9_restore 7 = .ok (.bipush (-103), 2) := by decide +kernel
theorem dX9_restore_9 : decode cX9_restore 9 = .ok (.ireturn, 1) := by decide +kernel
theorem dX9_restore_10 : decode cX9_restore 10 = .ok (.aload_n 0, 1) := by decide +kernel
theorem dX9_restore_11 : decode cX9_restore 11 = .ok (.aload_n 0, 1) := by decide +kernel
theorem dX9_restore_12 : decode cX9_restore 12 = .ok (.getfield 341, 3) := by decide +kernel
theorem dX9_restore_15 : decode cX9_restore 15 = .ok (.putfield 171, 3) := by decide +kernel
theorem dX9_restore_18 : decode cX9_restore 18 = .ok (.aload_n 0, 1) := by decide +kernel
theorem dX9_restore_19 : decode cX9_restore 19 = .ok (.aload_n 0, 1) := by decide +kernel
theorem dX9_restore_20 : decode cX9_restore 20 = .ok (.getfield 344, 3) := by decide +kernel
theorem dX9_restore_23 : decode cX9_restore 23 = .ok (.putfield 168, 3) := by decide +kernel
theorem dX9_restore_26 : decode cX9_restore 26 = .ok (.aload_n 0, 1) := by decide +kernel
theorem dX9_restore_27 : decode cX9_restore 27 = .ok (.iconst (-1), 1) := by decide +kernel
theorem dX9_restore_28 : decode cX9_restore 28 = .ok (.putfield 68, 3) := by decide +kernel
