theorem dX12_keep_44 : decode cX12_keep 44 = .ok (.getfield 289, 3) := by decide +kernel
theorem dX12_keep_47 : decode cX12_keep 47 = .ok (.iconst 1, 1) := by decide +kernel
theorem dX12_keep_48 : decode cX12_keep 48 = .ok (.isub, 1) := by decide +kernel
theorem dX12_keep_49 : decode cX12_keep 49 = .ok (.putfield 289, 3) := by decide +kernel
theorem dX12_keep_52 : decode cX12_keep 52 = .ok (.iconst 0, 1) := by decide +kernel
theorem dX12_keep_53 : decode cX12_keep 53 = .ok (.istore_n 1, 1) := by decide +kernel
theorem dX12_keep_54 : decode cX12_keep 54 = .ok (.iload_n 1, 1) := by decide +kernel
theorem dX12_keep_55 : decode cX12_keep 55 = .ok (.sipush 268, 3) := by decide +kernel
theorem dX12_keep_58 : decode cX12_keep 58 = .ok (.if_icmp .ge 30, 3) := by decide +kernel
theorem dX12_keep_61 : decode cX12_keep 61 = .ok (.aload_n 0, 1) := by decide +kernel
theorem dX12_keep_62 : decode cX12_keep 62 = .ok (.getfield 77, 3) := by decide +kernel
theorem dX12_keep_65 : decode cX12_keep 65 = .ok (.sipush 268, 3) := by decide +kernel
theorem dX12_keep_68 : decode cX12_keep 68 = .ok (.aload_n 0, 1) := by decide +kernel
theorem dX12_keep_69 : decode cX12_keep 69 = .ok (.getfield 289, 3) := by decide +kernel
theorem dX12_keep_72 : decode cX12_keep 72 = .ok (.imul, 1) := by decide +kernel
theorem dX12_keep_73 : decode cX12_keep 73 = .ok (.iload_n 1, 1) := by decide +kernel
theorem dX12_keep_74 : decode cX12_keep 74 = .ok (.iadd, 1) := by decide +kernel
theorem dX12_keep_75 : decode cX12_keep 75 = .ok (.aload_n 0, 1) := by decide +kernel
theorem dX12_keep_76 : decode cX12_keep 76 = .ok (.getfield 52, 3) := by decide +kernel
theorem dX12_keep_79 : decode cX12_keep 79 = .ok (.iload_n 1, 1) := by decide +kernel
theorem dX12_keep_80 : decode cX12_keep 80 = .ok (.iaload, 1) := by decide +kernel
theorem dX12_keep_81 : decode cX12_keep 81 = .ok (.iastore, 1) := by decide +kernel
theorem dX12_keep_82 : decode cX12_keep 82 = .ok (.iinc 1 1, 3) := by decide +kernel
theorem dX12_keep_85 : decode cX12_keep 85 = .ok (.goto (-31), 3) := by decide +kernel
theorem dX12_keep_88 : decode cX12_keep 88 = .ok (.aload_n 0, 1) := by decide +kernel
theorem dX12_keep_89 : decode cX12_keep 89 = .ok (.dup, 1) := by decide +kernel
theorem dX12_keep_90 : decode cX12_keep 90 = .ok (.getfield 289, 3) := by decide +kernel
theorem dX12_keep_93 : decode cX12_keep 93 = .ok (.iconst 1, 1) := by decide +kernel
theorem dX12_keep_94 : decode cX12_keep 94 = .ok (.iadd, 1) := by decide +kernel
theorem dX12_keep_95 : decode cX12_keep 95 = .ok (.putfield 289, 3) := by decide +kernel
theorem dX12_keep_98 : decode cX12_keep 98 = .ok (.return_, 1) := by decide +kernel
theorem dX12_isRefused_0 : decode cX12_isRefused 0 = .ok (.iload_n 1, 1) := by decide +kernel
theorem dX12_isRefused_1 : decode cX12_isRefused 1 = .ok (.iconst (-1), 1) := by decide +kernel
theorem dX12_isRefused_2 : decode cX12_isRefused 2 = .ok (.if_icmp .eq 13, 3) := by decide +kernel
theorem dX12_isRefused_5 : decode cX12_isRefused 5 = .ok (.aload_n 0, 1) := by decide +kernel
theorem dX12_isRefused_6 : decode cX12_isRefused 6 = .ok (.getfield 55, 3) := by decide +kernel
theorem dX12_isRefused_9 : decode cX12_isRefused 9 = .ok (.iload_n 1, 1) := by decide +kernel
theorem dX12_isRefused_10 : decode cX12_isRefused 10 = .ok (.dup2, 1) := by decide +kernel
theorem dX12_isRefused_11 : decode cX12_isRefused 11 = .ok (.iaload, 1) := by decide +kernel
theorem dX12_isRefused_12 : decode cX12_isRefused 12 = .ok (.iconst 1, 1) := by decide +kernel
theorem dX12_isRefused_13 : decode cX12_isRefused 13 = .ok (.iadd, 1) := by decide +kernel
theorem dX12_isRefused_14 : decode cX12_isRefused 14 = .ok (.iastore, 1) := by decide +kernel
theorem dX12_isRefused_15 : decode cX12_isRefused 15 = .ok (.iload_n 1, 1) := by decide +kernel
theorem dX12_isRefused_16 : decode cX12_isRefused 16 = .ok (.iconst (-1), 1) := by decide +kernel
theorem dX12_isRefused_17 : decode cX12_isRefused 17 = .ok (.if_icmp .eq 7, 3) := by decide +kernel
theorem dX12_isRefused_20 : decode cX12_isRefused 20 = .ok (.iconst 1, 1) := by decide +kernel
theorem dX12_isRefused_21 : decode cX12_isRefused 21 = .ok (.goto 4, 3) := by decide +kernel
theorem dX12_isRefused_24 : decode cX12_isRefused 24 = .ok (.iconst 0, 1) := by decide +kernel
theorem dX12_isRefused_25 : decode cX12_isRefused 25 = .ok (.ireturn, 1) := by decide +kernel
theorem dX12_strikeNow_0 : decode cX12_strikeNow 0 = .ok (.aload_n 0, 1) := by decide +kernel
theorem dX12_strikeNow_1 : decode cX12_strikeNow 1 = .ok (.iload_n 1, 1) := by decide +kernel
theorem dX12_strikeNow_2 : decode cX12_strikeNow 2 = .ok (.iload_n 2, 1) := by decide +kernel
theorem dX12_strikeNow_3 : decode cX12_strikeNow 3 = .ok (.invokevirtual 348, 3) := by decide +kernel
theorem dX12_strikeNow_6 : decode cX12_strikeNow 6 = .ok (.istore_n 3, 1) := by decide +kernel
theorem dX12_strikeNow_7 : decode cX12_strikeNow 7 = .ok (.iconst 0, 1) := by decide +kernel
theorem dX12_strikeNow_8 : decode cX12_strikeNow 8 = .ok (.istore 4, 2) := by decide +kernel
theorem dX12_strikeNow_10 : decode cX12_strikeNow 10 = .ok (.iload 4, 2) := by decide +kernel
theorem dX12_strikeNow_12 : decode cX12_strikeNow 12 = .ok (.aload_n 0, 1) := by decide +kernel
theorem dX12_strikeNow_13 : decode cX12_strikeNow 13 = .ok (.getfield 271, 3) := by decide +kernel
theorem dX12_strikeNow_16 : decode cX12_strikeNow 16 = .ok (.if_icmp .ge 69, 3) := by decide +kernel
theorem dX12_strikeNow_19 : decode cX12_strikeNow 19 = .ok (.iload_n 3, 1) := by decide +kernel
theorem dX12_strikeNow_20 : decode cX12_strikeNow 20 = .ok (.iload 4, 2) := by decide +kernel
theorem dX12_strikeNow_22 : decode cX12_strikeNow 22 = .ok (.invokestatic 234, 3) := by decide +kernel
theorem dX12_strikeNow_25 : decode cX12_strikeNow 25 = .ok (.ifCond .eq 54, 3) := by decide +kernel
theorem dX12_strikeNow_28 : decode cX12_strikeNow 28 = .ok (.aload_n 0, 1) := by decide +kernel
theorem dX12_strikeNow_29 : decode cX12_strikeNow 29 = .ok (.getfield 52, 3) := by decide +kernel
theorem dX12_strikeNow_32 : decode cX12_strikeNow 32 = .ok (.bipush 8, 2) := by decide +kernel
theorem dX12_strikeNow_34 : decode cX12_strikeNow 34 = .ok (.iload 4, 2) := by decide +kernel
theorem dX12_strikeNow_36 : decode cX12_strikeNow 36 = .ok (.iadd, 1) := by decide +kernel
theorem dX12_strikeNow_37 : decode cX12_strikeNow 37 = .ok (.bipush 99, 2) := by decide +kernel
theorem dX12_strikeNow_39 : decode cX12_strikeNow 39 = .ok (.aload_n 0, 1) := by decide +kernel
theorem dX12_strikeNow_40 : decode cX12_strikeNow 40 = .ok (.getfield 52, 3) := by decide +kernel
theorem dX12_strikeNow_43 : decode cX12_strikeNow 43 = .ok (.bipush 8, 2) := by decide +kernel
theorem dX12_strikeNow_45 : decode cX12_strikeNow 45 = .ok (.iload 4, 2) := by decide +kernel
theorem dX12_strikeNow_47 : decode cX12_strikeNow 47 = .ok (.iadd, 1) := by decide +kernel
theorem dX12_strikeNow_48 : decode cX12_strikeNow 48 = .ok (.iaload, 1) := by decide +kernel
theorem dX12_strikeNow_49 : decode cX12_strikeNow 49 = .ok (.iconst 1, 1) := by decide +kernel
theorem dX12_strikeNow_50 : decode cX12_strikeNow 50 = .ok (.iadd, 1) := by decide +kernel
theorem dX12_strikeNow_51 : decode cX12_strikeNow 51 = .ok (.invokestatic 253, 3) := by decide +kernel
theorem dX12_strikeNow_54 : decode cX12_strikeNow 54 = .ok (.iastore, 1) := by decide +kernel
theorem dX12_strikeNow_55 : decode cX12_strikeNow 55 = .ok (.aload_n 0, 1) := by decide +kernel
theorem dX12_strikeNow_56 : decode cX12_strikeNow 56 = .ok (.getfield 52, 3) := by decide +kernel
theorem dX12_strikeNow_59 : decode cX12_strikeNow 59 = .ok (.iconst 0, 1) := by decide +kernel
theorem dX12_strikeNow_60 : decode cX12_strikeNow 60 = .ok (.iload 4, 2) := by decide +kernel
theorem dX12_strikeNow_62 : decode cX12_strikeNow 62 = .ok (.iadd, 1) := by decide +kernel
theorem dX12_strikeNow_63 : decode cX12_strikeNow 63 = .ok (.iconst 1, 1) := by decide +kernel
theorem dX12_strikeNow_64 : decode cX12_strikeNow 64 = .ok (.aload_n 0, 1) := by decide +kernel
theorem dX12_strikeNow_65 : decode cX12_strikeNow 65 = .ok (.getfield 52, 3) := by decide +kernel
theorem dX12_strikeNow_68 : decode cX12_strikeNow 68 = .ok (.iconst 0, 1) := by decide +kernel
theorem dX12_strikeNow_69 : decode cX12_strikeNow 69 = .ok (.iload 4, 2) := by decide +kernel
theorem dX12_strikeNow_71 : decode cX12_strikeNow 71 = .ok (.iadd, 1) := by decide +kernel
theorem dX12_strikeNow_72 : decode cX12_strikeNow 72 = .ok (.iaload, 1) := by decide +kernel
theorem dX12_strikeNow_73 : decode cX12_strikeNow 73 = .ok (.iconst 1, 1) := by decide +kernel
theorem dX12_strikeNow_74 : decode cX12_strikeNow 74 = .ok (.isub, 1) := by decide +kernel
theorem dX12_strikeNow_75 : decode cX12_strikeNow 75 = .ok (.invokestatic 255, 3) := by decide +kernel
theorem dX12_strikeNow_78 : decode cX12_strikeNow 78 = .ok (.iastore, 1) := by decide +kernel
theorem dX12_strikeNow_79 : decode cX12_strikeNow 79 = .ok (.iinc 4 1, 3) := by decide +kernel
theorem dX12_strikeNow_82 : decode cX12_strikeNow 82 = .ok (.goto (-72), 3) := by decide +kernel
theorem dX12_strikeNow_85 : decode cX12_strikeNow 85 = .ok (.aload_n 0, 1) := by decide +kernel
theorem dX12_strikeNow_86 : decode cX12_strikeNow 86 = .ok (.getfield 52, 3) := by decide +kernel
theorem dX12_strikeNow_89 : decode cX12_strikeNow 89 = .ok (.bipush 87, 2) := by decide +kernel
theorem dX12_strikeNow_91 : decode cX12_strikeNow 91 = .ok (.iaload, 1) := by decide +kernel
theorem dX12_strikeNow_92 : decode cX12_strikeNow 92 = .ok (.bipush 60, 2) := by decide +kernel
theorem dX12_strikeNow_94 : decode cX12_strikeNow 94 = .ok (.if_icmp .ne 53, 3) := by decide +kernel
theorem dX12_strikeNow_97 : decode cX12_strikeNow 97 = .ok (.iconst 3, 1) := by decide +kernel
theorem dX12_strikeNow_98 : decode cX12_strikeNow 98 = .ok (.istore 4, 2) := by decide +kernel
theorem dX12_strikeNow_100 : decode cX12_strikeNow 100 = .ok (.iload 4, 2) := by decide +kernel
theorem dX12_strikeNow_102 : decode cX12_strikeNow 102 = .ok (.sipush 180, 3) := by decide +kernel
theorem dX12_strikeNow_105 : decode cX12_strikeNow 105 = .ok (.if_icmp .ge 31, 3) := by decide +kernel
theorem dX12_strikeNow_108 : decode cX12_strikeNow 108 = .ok (.aload_n 0, 1) := by decide +kernel
theorem dX12_strikeNow_109 : decode cX12_strikeNow 109 = .ok (.getfield 52, 3) := by decide +kernel
theorem dX12_strikeNow_112 : decode cX12_strikeNow 112 = .ok (.bipush 88, 2) := by decide +kernel
theorem dX12_strikeNow_114 : decode cX12_strikeNow 114 = .ok (.iload 4, 2) := by decide +kernel
theorem dX12_strikeNow_116 : decode cX12_strikeNow 116 = .ok (.iadd, 1) := by decide +kernel
theorem dX12_strikeNow_117 : decode cX12_strikeNow 117 = .ok (.iconst 3, 1) := by decide +kernel
theorem dX12_strikeNow_118 : decode cX12_strikeNow 118 = .ok (.isub, 1) := by decide +kernel
theorem dX12_strikeNow_119 : decode cX12_strikeNow 119 = .ok (.aload_n 0, 1) := by decide +kernel
theorem dX12_strikeNow_120 : decode cX12_strikeNow 120 = .ok (.getfield 52, 3) := by decide +kernel
theorem dX12_strikeNow_123 : decode cX12_strikeNow 123 = .ok (.bipush 88, 2) := by decide +kernel
theorem dX12_strikeNow_125 : decode cX12_strikeNow 125 = .ok (.iload 4, 2) := by decide +kernel
theorem dX12_strikeNow_127 : decode cX12_strikeNow 127 = .ok (.iadd, 1) := by decide +kernel
theorem dX12_strikeNow_128 : decode cX12_strikeNow 128 = .ok (.iaload, 1) := by decide +kernel
theorem dX12_strikeNow_129 : decode cX12_strikeNow 129 = .ok (.iastore, 1) := by decide +kernel
theorem dX12_strikeNow_130 : decode cX12_strikeNow 130 = .ok (.iinc 4 1, 3) := by decide +kernel
theorem dX12_strikeNow_133 : decode cX12_strikeNow 133 = .ok (.goto (-33), 3) := by decide +kernel
theorem dX12_strikeNow_136 : decode cX12_strikeNow 136 = .ok (.aload_n 0, 1) := by decide +kernel
theorem dX12_strikeNow_137 : decode cX12_strikeNow 137 = .ok (.getfield 52, 3) := by decide +kernel
theorem dX12_strikeNow_140 : decode cX12_strikeNow 140 = .ok (.bipush 87, 2) := by decide +kernel
theorem dX12_strikeNow_142 : decode cX12_strikeNow 142 = .ok (.dup2, 1) := by decide +kernel
theorem dX12_strikeNow_143 : decode cX12_strikeNow 143 = .ok (.iaload, 1) := by decide +kernel
theorem dX12_strikeNow_144 : decode cX12_strikeNow 144 = .ok (.iconst 1, 1) := by decide +kernel
theorem dX12_strikeNow_145 : decode cX12_strikeNow 145 = .ok (.isub, 1) := by decide +kernel
theorem dX12_strikeNow_146 : decode cX12_strikeNow 146 = .ok (.iastore, 1) := by decide +kernel
theorem dX12_strikeNow_147 : decode cX12_strikeNow 147 = .ok (.bipush 88, 2) := by decide +kernel
theorem dX12_strikeNow_149 : decode cX12_strikeNow 149 = .ok (.iconst 3, 1) := by decide +kernel
theorem dX12_strikeNow_150 : decode cX12_strikeNow 150 = .ok (.aload_n 0, 1) := by decide +kernel
theorem dX12_strikeNow_151 : decode cX12_strikeNow 151 = .ok (.getfield 52, 3) := by decide +kernel
theorem dX12_strikeNow_154 : decode cX12_strikeNow 154 = .ok (.bipush 87, 2) := by decide +kernel
theorem dX12_strikeNow_156 : decode cX12_strikeNow 156 = .ok (.iaload, 1) := by decide +kernel
theorem dX12_strikeNow_157 : decode cX12_strikeNow 157 = .ok (.imul, 1) := by decide +kernel
theorem dX12_strikeNow_158 : decode cX12_strikeNow 158 = .ok (.iadd, 1) := by decide +kernel
theorem dX12_strikeNow_159 : decode cX12_strikeNow 159 = .ok (.istore 4, 2) := by decide +kernel
theorem dX12_strikeNow_161 : decode cX12_strikeNow 161 = .ok (.aload_n 0, 1) := by decide +kernel
theorem dX12_strikeNow_162 : decode cX12_strikeNow 162 = .ok (.getfield 52, 3) := by decide +kernel
theorem dX12_strikeNow_165 : decode cX12_strikeNow 165 = .ok (.iload 4, 2) := by decide +kernel
theorem dX12_strikeNow_167 : decode cX12_strikeNow 167 = .ok (.iload_n 1, 1) := by decide +kernel
theorem dX12_strikeNow_168 : decode cX12_strikeNow 168 = .ok (.iastore, 1) := by decide +kernel
theorem dX12_strikeNow_169 : decode cX12_strikeNow 169 = .ok (.aload_n 0, 1) := by decide +kernel
theorem dX12_strikeNow_170 : decode cX12_strikeNow 170 = .ok (.getfield 52, 3) := by decide +kernel
theorem dX12_strikeNow_173 : decode cX12_strikeNow 173 = .ok (.iload 4, 2) := by decide +kernel
theorem dX12_strikeNow_175 : decode cX12_strikeNow 175 = .ok (.iconst 1, 1) := by decide +kernel
theorem dX12_strikeNow_176 : decode cX12_strikeNow 176 = .ok (.iadd, 1) := by decide +kernel
theorem dX12_strikeNow_177 : decode cX12_strikeNow 177 = .ok (.iload_n 2, 1) := by decide +kernel
theorem dX12_strikeNow_178 : decode cX12_strikeNow 178 = .ok (.iastore, 1) := by decide +kernel
theorem dX12_strikeNow_179 : decode cX12_strikeNow 179 = .ok (.aload_n 0, 1) := by decide +kernel
theorem dX12_strikeNow_180 : decode cX12_strikeNow 180 = .ok (.getfield 52, 3) := by decide +kernel
theorem dX12_strikeNow_183 : decode cX12_strikeNow 183 = .ok (.iload 4, 2) := by decide +kernel
theorem dX12_strikeNow_185 : decode cX12_strikeNow 185 = .ok (.iconst 2, 1) := by decide +kernel
theorem dX12_strikeNow_186 : decode cX12_strikeNow 186 = .ok (.iadd, 1) := by decide +kernel
theorem dX12_strikeNow_187 : decode cX12_strikeNow 187 = .ok (.iload_n 3, 1) := by decide +kernel
theorem dX12_strikeNow_188 : decode cX12_strikeNow 188 = .ok (.iastore, 1) := by decide +kernel
theorem dX12_strikeNow_189 : decode cX12_strikeNow 189 = .ok (.aload_n 0, 1) := by decide +kernel
theorem dX12_strikeNow_190 : decode cX12_strikeNow 190 = .ok (.getfield 52, 3) := by decide +kernel
theorem dX12_strikeNow_193 : decode cX12_strikeNow 193 = .ok (.bipush 87, 2) := by decide +kernel
theorem dX12_strikeNow_195 : decode cX12_strikeNow 195 = .ok (.dup2, 1) := by decide +kernel
theorem dX12_strikeNow_196 : decode cX12_strikeNow 196 = .ok (.iaload, 1) := by decide +kernel
theorem dX12_strikeNow_197 : decode cX12_strikeNow 197 = .ok (.iconst 1, 1) := by decide +kernel
theorem dX12_strikeNow_198 : decode cX12_strikeNow 198 = .ok (.iadd, 1) := by decide +kernel
theorem dX12_strikeNow_199 : decode cX12_strikeNow 199 = .ok (.iastore, 1) := by decide +kernel
theorem dX12_strikeNow_200 : decode cX12_strikeNow 200 = .ok (.iload_n 3, 1) := by decide +kernel
theorem dX12_strikeNow_201 : decode cX12_strikeNow 201 = .ok (.ireturn, 1) := by decide +kernel
theorem dX12_strike_0 : decode cX12_strike 0 = .ok (.aload_n 0, 1) := by decide +kernel
theorem dX12_strike_1 : decode cX12_strike 1 = .ok (.aload_n 0, 1) := by decide +kernel
theorem dX12_strike_2 : decode cX12_strike 2 = .ok (.iload_n 1, 1) := by decide +kernel
theorem dX12_strike_3 : decode cX12_strike 3 = .ok (.invokevirtual 342, 3) := by decide +kernel
theorem dX12_strike_6 : decode cX12_strike 6 = .ok (.ifCond .ne 7, 3) := by decide +kernel
theorem dX12_strike_9 : decode cX12_strike 9 = .ok (.iconst 0, 1) := by decide +kernel
theorem dX12_strike_10 : decode cX12_strike 10 = .ok (.goto 15, 3) := by decide +kernel
theorem dX12_strike_13 : decode cX12_strike 13 = .ok (.iload_n 2, 1) := by decide +kernel
theorem dX12_strike_14 : decode cX12_strike 14 = .ok (.invokestatic 351, 3) := by decide +kernel
theorem dX12_strike_17 : decode cX12_strike 17 = .ok (.ifCond .ne 7, 3) := by decide +kernel
theorem dX12_strike_20 : decode cX12_strike 20 = .ok (.iconst 1, 1) := by decide +kernel
theorem dX12_strike_21 : decode cX12_strike 21 = .ok (.goto 4, 3) := by decide +kernel
theorem dX12_strike_24 : decode cX12_strike 24 = .ok (.iconst (-1), 1) := by decide +kernel
theorem dX12_strike_25 : decode cX12_strike 25 = .ok (.invokevirtual 354, 3) := by decide +kernel
theorem dX12_strike_28 : decode cX12_strike 28 = .ok (.ifCond .eq 5, 3) := by decide +kernel
theorem dX12_strike_31 : decode cX12_strike 31 = .ok (.iconst (-1), 1) := by decide +kernel
theorem dX12_strike_32 : decode cX12_strike 32 = .ok (.ireturn, 1) := by decide +kernel
theorem dX12_strike_33 : decode cX12_strike 33 = .ok (.aload_n 0, 1) := by decide +kernel
theorem dX12_strike_34 : decode cX12_strike 34 = .ok (.invokevirtual 357, 3) := by decide +kernel
theorem dX12_strike_37 : decode cX12_strike 37 = .ok (.aload_n 0, 1) := by decide +kernel
theorem dX12_strike_38 : decode cX12_strike 38 = .ok (.iload_n 1, 1) := by decide +kernel
theorem dX12_strike_39 : decode cX12_strike 39 = .ok (.iload_n 2, 1) := by decide +kernel
theorem dX12_strike_40 : decode cX12_strike 40 = .ok (.invokevirtual 360, 3) := by decide +kernel
theorem dX12_strike_43 : decode cX12_strike 43 = .ok (.ireturn, 1) := by decide +kernel
theorem dX12_priceOf_0 : decode cX12_priceOf 0 = .ok (.iconst 1, 1) := by decide +kernel
theorem dX12_priceOf_1 : decode cX12_priceOf 1 = .ok (.aload_n 0, 1) := by decide +kernel
theorem dX12_priceOf_2 : decode cX12_priceOf 2 = .ok (.iload_n 1, 1) := by decide +kernel
theorem dX12_priceOf_3 : decode cX12_priceOf 3 = .ok (.iload_n 2, 1) := by decide +kernel
theorem dX12_priceOf_4 : decode cX12_priceOf 4 = .ok (.invokevirtual 363, 3) := by decide +kernel
theorem dX12_priceOf_7 : decode cX12_priceOf 7 = .ok (.invokestatic 255, 3) := by decide +kernel
theorem dX12_priceOf_10 : decode cX12_priceOf 10 = .ok (.ireturn, 1) := by decide +kernel
theorem dX12_whyNot_0 : decode cX12_whyNot 0 = .ok (.aload_n 0, 1) := by decide +kernel
theorem dX12_whyNot_1 : decode cX12_whyNot 1 = .ok (.iload_n 1, 1) := by decide +kernel
theorem dX12_whyNot_2 : decode cX12_whyNot 2 = .ok (.invokevirtual 342, 3) := by decide +kernel
theorem dX12_whyNot_5 : decode cX12_whyNot 5 = .ok (.ifCond .eq 16, 3) := by decide +kernel
theorem dX12_whyNot_8 : decode cX12_whyNot 8 = .ok (.aload_n 0, 1) := by decide +kernel
theorem dX12_whyNot_9 : decode cX12_whyNot 9 = .ok (.iload_n 2, 1) := by decide +kernel
theorem dX12_whyNot_10 : decode cX12_whyNot 10 = .ok (.invokevirtual 342, 3) := by decide +kernel
theorem dX12_whyNot_13 : decode cX12_whyNot 13 = .ok (.ifCond .eq 8, 3) := by decide +kernel
theorem dX12_whyNot_16 : decode cX12_whyNot 16 = .ok (.iload_n 1, 1) := by decide +kernel
theorem dX12_whyNot_17 : decode cX12_whyNot 17 = .ok (.iload_n 2, 1) := by decide +kernel
theorem dX12_whyNot_18 : decode cX12_whyNot 18 = .ok (.if_icmp .ne 5, 3) := by decide +kernel
theorem dX12_whyNot_21 : decode cX12_whyNot 21 = .ok (.iconst 0, 1) := by decide +kernel
theorem dX12_whyNot_22 : decode cX12_whyNot 22 = .ok (.ireturn, 1) := by decide +kernel
theorem dX12_whyNot_23 : decode cX12_whyNot 23 = .ok (.aload_n 0, 1) := by decide +kernel
theorem dX12_whyNot_24 : decode cX12_whyNot 24 = .ok (.iload_n 1, 1) := by decide +kernel
theorem dX12_whyNot_25 : decode cX12_whyNot 25 = .ok (.iload_n 2, 1) := by decide +kernel
theorem dX12_whyNot_26 : decode cX12_whyNot 26 = .ok (.invokevirtual 366, 3) := by decide +kernel
theorem dX12_whyNot_29 : decode cX12_whyNot 29 = .ok (.ifCond .ne 24, 3) := by decide +kernel
theorem dX12_whyNot_32 : decode cX12_whyNot 32 = .ok (.aload_n 0, 1) := by decide +kernel
theorem dX12_whyNot_33 : decode cX12_whyNot 33 = .ok (.iload_n 1, 1) := by decide +kernel
theorem dX12_whyNot_34 : decode cX12_whyNot 34 = .ok (.iload_n 2, 1) := by decide +kernel
theorem dX12_whyNot_35 : decode cX12_whyNot 35 = .ok (.invokevirtual 369, 3) := by decide +kernel
theorem dX12_whyNot_38 : decode cX12_whyNot 38 = .ok (.ifCond .ne 15, 3) := by decide +kernel
theorem dX12_whyNot_41 : decode cX12_whyNot 41 = .ok (.aload_n 0, 1) := by decide +kernel
theorem dX12_whyNot_42 : decode cX12_whyNot 42 = .ok (.getfield 52, 3) := by decide +kernel
theorem dX12_whyNot_45 : decode cX12_whyNot 45 = .ok (.bipush 84, 2) := by decide +kernel
theorem dX12_whyNot_47 : decode cX12_whyNot 47 = .ok (.iaload, 1) := by decide +kernel
theorem dX12_whyNot_48 : decode cX12_whyNot 48 = .ok (.bipush 16, 2) := by decide +kernel
theorem dX12_whyNot_50 : decode cX12_whyNot 50 = .ok (.if_icmp .ne 7, 3) := by decide +kernel
theorem dX12_whyNot_53 : decode cX12_whyNot 53 = .ok (.iconst 2, 1) := by decide +kernel
theorem dX12_whyNot_54 : decode cX12_whyNot 54 = .ok (.goto 24, 3) := by decide +kernel
theorem dX12_whyNot_57 : decode cX12_whyNot 57 = .ok (.aload_n 0, 1) := by decide +kernel
theorem dX12_whyNot_58 : decode cX12_whyNot 58 = .ok (.getfield 52, 3) := by decide +kernel
theorem dX12_whyNot_61 : decode cX12_whyNot 61 = .ok (.bipush 85, 2) := by decide +kernel
theorem dX12_whyNot_63 : decode cX12_whyNot 63 = .ok (.iaload, 1) := by decide +kernel
theorem dX12_whyNot_64 : decode cX12_whyNot 64 = .ok (.aload_n 0, 1) := by decide +kernel
theorem dX12_whyNot_65 : decode cX12_whyNot 65 = .ok (.iload_n 1, 1) := by decide +kernel
theorem dX12_whyNot_66 : decode cX12_whyNot 66 = .ok (.iload_n 2, 1) := by decide +kernel
theorem dX12_whyNot_67 : decode cX12_whyNot 67 = .ok (.invokevirtual 372, 3) := by decide +kernel
theorem dX12_whyNot_70 : decode cX12_whyNot 70 = .ok (.if_icmp .ge 7, 3) := by decide +kernel
theorem dX12_whyNot_73 : decode cX12_whyNot 73 = .ok (.iconst 4, 1) := by decide +kernel
theorem dX12_whyNot_74 : decode cX12_whyNot 74 = .ok (.goto 4, 3) := by decide +kernel
theorem dX12_whyNot_77 : decode cX12_whyNot 77 = .ok (.iconst (-1), 1) := by decide +kernel
theorem dX12_whyNot_78 : decode cX12_whyNot 78 = .ok (.ireturn, 1) := by decide +kernel
theorem dX12_lay_0 : decode cX12_lay 0 = .ok (.aload_n 0, 1) := by decide +kernel
theorem dX12_lay_1 : decode cX12_lay 1 = .ok (.aload_n 0, 1) := by decide +kernel
theorem dX12_lay_2 : decode cX12_lay 2 = .ok (.iload_n 1, 1) := by decide +kernel
theorem dX12_lay_3 : decode cX12_lay 3 = .ok (.iload_n 2, 1) := by decide +kernel
theorem dX12_lay_4 : decode cX12_lay 4 = .ok (.invokevirtual 375, 3) := by decide +kernel
theorem dX12_lay_7 : decode cX12_lay 7 = .ok (.invokevirtual 354, 3) := by decide +kernel
theorem dX12_lay_10 : decode cX12_lay 10 = .ok (.ifCond .eq 5, 3) := by decide +kernel
theorem dX12_lay_13 : decode cX12_lay 13 = .ok (.iconst (-1), 1) := by decide +kernel
theorem dX12_lay_14 : decode cX12_lay 14 = .ok (.ireturn, 1) := by decide +kernel
theorem dX12_lay_15 : decode cX12_lay 15 = .ok (.aload_n 0, 1) := by decide +kernel
theorem dX12_lay_16 : decode cX12_lay 16 = .ok (.invokevirtual 357, 3) := by decide +kernel
theorem dX12_lay_19 : decode cX12_lay 19 = .ok (.aload_n 0, 1) := by decide +kernel
theorem dX12_lay_20 : decode cX12_lay 20 = .ok (.getfield 52, 3) := by decide +kernel
theorem dX12_lay_23 : decode cX12_lay 23 = .ok (.bipush 85, 2) := by decide +kernel
theorem dX12_lay_25 : decode cX12_lay 25 = .ok (.dup2, 1) := by decide +kernel
theorem dX12_lay_26 : decode cX12_lay 26 = .ok (.iaload, 1) := by decide +kernel
theorem dX12_lay_27 : decode cX12_lay 27 = .ok (.aload_n 0, 1) := by decide +kernel
theorem dX12_lay_28 : decode cX12_lay 28 = .ok (.iload_n 1, 1) := by decide +kernel
theorem dX12_lay_29 : decode cX12_lay 29 = .ok (.iload_n 2, 1) := by decide +kernel
theorem dX12_lay_30 : decode cX12_lay 30 = .ok (.invokevirtual 372, 3) := by decide +kernel
theorem dX12_lay_33 : decode cX12_lay 33 = .ok (.isub, 1) := by decide +kernel
theorem dX12_lay_34 : decode cX12_lay 34 = .ok (.iastore, 1) := by decide +kernel
theorem dX12_lay_35 : decode cX12_lay 35 = .ok (.aload_n 0, 1) := by decide +kernel
theorem dX12_lay_36 : decode cX12_lay 36 = .ok (.iload_n 1, 1) := by decide +kernel
theorem dX12_lay_37 : decode cX12_lay 37 = .ok (.iload_n 2, 1) := by decide +kernel
theorem dX12_lay_38 : decode cX12_lay 38 = .ok (.iconst 0, 1) := by decide +kernel
theorem dX12_lay_39 : decode cX12_lay 39 = .ok (.invokevirtual 280, 3) := by decide +kernel
theorem dX12_lay_42 : decode cX12_lay 42 = .ok (.ireturn, 1) := by decide +kernel
theorem dX12_cut_0 : decode cX12_cut 0 = .ok (.aload_n 0, 1) := by decide +kernel
theorem dX12_cut_1 : decode cX12_cut 1 = .ok (.aload_n 0, 1) := by decide +kernel
theorem dX12_cut_2 : decode cX12_cut 2 = .ok (.iload_n 1, 1) := by decide +kernel
theorem dX12_cut_3 : decode cX12_cut 3 = .ok (.invokevirtual 345, 3) := by decide +kernel
theorem dX12_cut_6 : decode cX12_cut 6 = .ok (.ifCond .ne 7, 3) := by decide +kernel
theorem dX12_cut_9 : decode cX12_cut 9 = .ok (.iconst 0, 1) := by decide +kernel
theorem dX12_cut_10 : decode cX12_cut 10 = .ok (.goto 18, 3) := by decide +kernel
theorem dX12_cut_13 : decode cX12_cut 13 = .ok (.aload_n 0, 1) := by decide +kernel
theorem dX12_cut_14 : decode cX12_cut 14 = .ok (.iload_n 1, 1) := by decide +kernel
theorem dX12_cut_15 : decode cX12_cut 15 = .ok (.iconst 3, 1) := by decide +kernel
theorem dX12_cut_16 : decode cX12_cut 16 = .ok (.invokevirtual 306, 3) := by decide +kernel
theorem dX12_cut_19 : decode cX12_cut 19 = .ok (.iconst 1, 1) := by decide +kernel
theorem dX12_cut_20 : decode cX12_cut 20 = .ok (.if_icmp .ne 7, 3) := by decide +kernel
theorem dX12_cut_23 : decode cX12_cut 23 = .ok (.iconst 3, 1) := by decide +kernel
theorem dX12_cut_24 : decode cX12_cut 24 = .ok (.goto 4, 3) := by decide +kernel
theorem dX12_cut_27 : decode cX12_cut 27 = .ok (.iconst (-1), 1) := by decide +kernel
theorem dX12_cut_28 : decode cX12_cut 28 = .ok (.invokevirtual 354, 3) := by decide +kernel
theorem dX12_cut_31 : decode cX12_cut 31 = .ok (.ifCond .eq 5, 3) := by decide +kernel
theorem dX12_cut_34 : decode cX12_cut 34 = .ok (.iconst (-1), 1) := by decide +kernel
theorem dX12_cut_35 : decode cX12_cut 35 = .ok (.ireturn, 1) := by decide +kernel
theorem dX12_cut_36 : decode cX12_cut 36 = .ok (.aload_n 0, 1) := by decide +kernel
theorem dX12_cut_37 : decode cX12_cut 37 = .ok (.invokevirtual 357, 3) := by decide +kernel
theorem dX12_cut_40 : decode cX12_cut 40 = .ok (.aload_n 0, 1) := by decide +kernel
theorem dX12_cut_41 : decode cX12_cut 41 = .ok (.iload_n 1, 1) := by decide +kernel
theorem dX12_cut_42 : decode cX12_cut 42 = .ok (.iconst 3, 1) := by decide +kernel
theorem dX12_cut_43 : decode cX12_cut 43 = .ok (.iconst 1, 1) := by decide +kernel
theorem dX12_cut_44 : decode cX12_cut 44 = .ok (.invokevirtual 302, 3) := by decide +kernel
theorem dX12_cut_47 : decode cX12_cut 47 = .ok (.aload_n 0, 1) := by decide +kernel
theorem dX12_cut_48 : decode cX12_cut 48 = .ok (.getfield 52, 3) := by decide +kernel
theorem dX12_cut_51 : decode cX12_cut 51 = .ok (.bipush 85, 2) := by decide +kernel
theorem dX12_cut_53 : decode cX12_cut 53 = .ok (.bipush 99, 2) := by decide +kernel
theorem dX12_cut_55 : decode cX12_cut 55 = .ok (.aload_n 0, 1) := by decide +kernel
theorem dX12_cut_56 : decode cX12_cut 56 = .ok (.getfield 52, 3) := by decide +kernel
theorem dX12_cut_59 : decode cX12_cut 59 = .ok (.bipush 85, 2) := by decide +kernel
theorem dX12_cut_61 : decode cX12_cut 61 = .ok (.iaload, 1) := by decide +kernel
theorem dX12_cut_62 : decode cX12_cut 62 = .ok (.aload_n 0, 1) := by decide +kernel
theorem dX12_cut_63 : decode cX12_cut 63 = .ok (.aload_n 0, 1) := by decide +kernel
theorem dX12_cut_64 : decode cX12_cut 64 = .ok (.iload_n 1, 1) := by decide +kernel
theorem dX12_cut_65 : decode cX12_cut 65 = .ok (.iconst 0, 1) := by decide +kernel
theorem dX12_cut_66 : decode cX12_cut 66 = .ok (.invokevirtual 306, 3) := by decide +kernel
theorem dX12_cut_69 : decode cX12_cut 69 = .ok (.aload_n 0, 1) := by decide +kernel
theorem dX12_cut_70 : decode cX12_cut 70 = .ok (.iload_n 1, 1) := by decide +kernel
theorem dX12_cut_71 : decode cX12_cut 71 = .ok (.iconst 1, 1) := by decide +kernel
theorem dX12_cut_72 : decode cX12_cut 72 = .ok (.invokevirtual 306, 3) := by decide +kernel
theorem dX12_cut_75 : decode cX12_cut 75 = .ok (.invokevirtual 372, 3) := by decide +kernel
theorem dX12_cut_78 : decode cX12_cut 78 = .ok (.iconst 2, 1) := by decide +kernel
theorem dX12_cut_79 : decode cX12_cut 79 = .ok (.idiv, 1) := by decide +kernel
theorem dX12_cut_80 : decode cX12_cut 80 = .ok (.iadd, 1) := by decide +kernel
theorem dX12_cut_81 : decode cX12_cut 81 = .ok (.invokestatic 253, 3) := by decide +kernel
theorem dX12_cut_84 : decode cX12_cut 84 = .ok (.iastore, 1) := by decide +kernel
theorem dX12_cut_85 : decode cX12_cut 85 = .ok (.aload_n 0, 1) := by decide +kernel
theorem dX12_cut_86 : decode cX12_cut 86 = .ok (.getfield 52, 3) := by decide +kernel
theorem dX12_cut_89 : decode cX12_cut 89 = .ok (.bipush 85, 2) := by decide +kernel
theorem dX12_cut_91 : decode cX12_cut 91 = .ok (.iaload, 1) := by decide +kernel
theorem dX12_cut_92 : decode cX12_cut 92 = .ok (.ireturn, 1) := by decide +kernel
theorem dX12_scrape_0 : decode cX12_scrape 0 = .ok (.aload_n 0, 1) := by decide +kernel
theorem dX12_scrape_1 : decode cX12_scrape 1 = .ok (.aload_n 0, 1) := by decide +kernel
theorem dX12_scrape_2 : decode cX12_scrape 2 = .ok (.iload_n 1, 1) := by decide +kernel
theorem dX12_scrape_3 : decode cX12_scrape 3 = .ok (.invokevirtual 345, 3) := by decide +kernel
theorem dX12_scrape_6 : decode cX12_scrape 6 = .ok (.ifCond .ne 7, 3) := by decide +kernel
theorem dX12_scrape_9 : decode cX12_scrape 9 = .ok (.iconst 0, 1) := by decide +kernel
theorem dX12_scrape_10 : decode cX12_scrape 10 = .ok (.goto 41, 3) := by decide +kernel
theorem dX12_scrape_13 : decode cX12_scrape 13 = .ok (.aload_n 0, 1) := by decide +kernel
theorem dX12_scrape_14 : decode cX12_scrape 14 = .ok (.iload_n 1, 1) := by decide +kernel
theorem dX12_scrape_15 : decode cX12_scrape 15 = .ok (.iconst 3, 1) := by decide +kernel
theorem dX12_scrape_16 : decode cX12_scrape 16 = .ok (.invokevirtual 306, 3) := by decide +kernel
theorem dX12_scrape_19 : decode cX12_scrape 19 = .ok (.iconst 1, 1) := by decide +kernel
theorem dX12_scrape_20 : decode cX12_scrape 20 = .ok (.if_icmp .eq 12, 3) := by decide +kernel
theorem dX12_scrape_23 : decode cX12_scrape 23 = .ok (.aload_n 0, 1) := by decide +kernel
theorem dX12_scrape_24 : decode cX12_scrape 24 = .ok (.iload_n 1, 1) := by decide +kernel
theorem dX12_scrape_25 : decode cX12_scrape 25 = .ok (.iconst 2, 1) := by decide +kernel
theorem dX12_scrape_26 : decode cX12_scrape 26 = .ok (.invokevirtual 306, 3) := by decide +kernel
theorem dX12_scrape_29 : decode cX12_scrape 29 = .ok (.ifCond .ne 7, 3) := by decide +kernel
theorem dX12_scrape_32 : decode cX12_scrape 32 = .ok (.iconst 3, 1) := by decide +kernel
theorem dX12_scrape_33 : decode cX12_scrape 33 = .ok (.goto 18, 3) := by decide +kernel
theorem dX12_scrape_36 : decode cX12_scrape 36 = .ok (.aload_n 0, 1) := by decide +kernel
theorem dX12_scrape_37 : decode cX12_scrape 37 = .ok (.getfield 52, 3) := by decide +kernel
theorem dX12_scrape_40 : decode cX12_scrape 40 = .ok (.bipush 85, 2) := by decide +kernel
theorem dX12_scrape_42 : decode cX12_scrape 42 = .ok (.iaload, 1) := by decide +kernel
theorem dX12_scrape_43 : decode cX12_scrape 43 = .ok (.ifCond .ne 7, 3) := by decide +kernel
theorem dX12_scrape_46 : decode cX12_scrape 46 = .ok (.iconst 4, 1) := by decide +kernel
theorem dX12_scrape_47 : decode cX12_scrape 47 = .ok (.goto 4, 3) := by decide +kernel
theorem dX12_scrape_50 : decode cX12_scrape 50 = .ok (.iconst (-1), 1) := by decide +kernel
theorem dX12_scrape_51 : decode cX12_scrape 51 = .ok (.invokevirtual 354, 3) := by decide +kernel
theorem dX12_scrape_54 : decode cX12_scrape 54 = .ok (.ifCond .eq 5, 3) := by decide +kernel
theorem dX12_scrape_57 : decode cX12_scrape 57 = .ok (.iconst (-1), 1) := by decide +kernel
theorem dX12_scrape_58 : decode cX12_scrape 58 = .ok (.ireturn, 1) := by decide +kernel
theorem dX12_scrape_59 : decode cX12_scrape 59 = .ok (.aload_n 0, 1) := by decide +kernel
theorem dX12_scrape_60 : decode cX12_scrape 60 = .ok (.invokevirtual 357, 3) := by decide +kernel
theorem dX12_scrape_63 : decode cX12_scrape 63 = .ok (.aload_n 0, 1) := by decide +kernel
theorem dX12_scrape_64 : decode cX12_scrape 64 = .ok (.iload_n 1, 1) := by decide +kernel
theorem dX12_scrape_65 : decode cX12_scrape 65 = .ok (.iconst 2, 1) := by decide +kernel
theorem dX12_scrape_66 : decode cX12_scrape 66 = .ok (.iconst 0, 1) := by decide +kernel
theorem dX12_scrape_67 : decode cX12_scrape 67 = .ok (.invokevirtual 302, 3) := by decide +kernel
theorem dX12_scrape_70 : decode cX12_scrape 70 = .ok (.aload_n 0, 1) := by decide +kernel
theorem dX12_scrape_71 : decode cX12_scrape 71 = .ok (.getfield 52, 3) := by decide +kernel
theorem dX12_scrape_74 : decode cX12_scrape 74 = .ok (.bipush 85, 2) := by decide +kernel
theorem dX12_scrape_76 : decode cX12_scrape 76 = .ok (.dup2, 1) := by decide +kernel
theorem dX12_scrape_77 : decode cX12_scrape 77 = .ok (.iaload, 1) := by decide +kernel
theorem dX12_scrape_78 : decode cX12_scrape 78 = .ok (.iconst 1, 1) := by decide +kernel
theorem dX12_scrape_79 : decode cX12_scrape 79 = .ok (.isub, 1) := by decide +kernel
theorem dX12_scrape_80 : decode cX12_scrape 80 = .ok (.iastore, 1) := by decide +kernel
theorem dX12_scrape_81 : decode cX12_scrape 81 = .ok (.aload_n 0, 1) := by decide +kernel
theorem dX12_scrape_82 : decode cX12_scrape 82 = .ok (.getfield 52, 3) := by decide +kernel
theorem dX12_scrape_85 : decode cX12_scrape 85 = .ok (.bipush 85, 2) := by decide +kernel
theorem dX12_scrape_87 : decode cX12_scrape 87 = .ok (.iaload, 1) := by decide +kernel
theorem dX12_scrape_88 : decode cX12_scrape 88 = .ok (.ireturn, 1) := by decide +kernel
theorem dX12_ground_0 : decode cX12_ground 0 = .ok (.aload_n 0, 1) := by decide +kernel
theorem dX12_ground_1 : decode cX12_ground 1 = .ok (.aload_n 0, 1) := by decide +kernel
theorem dX12_ground_2 : decode cX12_ground 2 = .ok (.iload_n 1, 1) := by decide +kernel
theorem dX12_ground_3 : decode cX12_ground 3 = .ok (.invokevirtual 342, 3) := by decide +kernel
theorem dX12_ground_6 : decode cX12_ground 6 = .ok (.ifCond .ne 7, 3) := by decide +kernel
theorem dX12_ground_9 : decode cX12_ground 9 = .ok (.iconst 0, 1) := by decide +kernel
theorem dX12_ground_10 : decode cX12_ground 10 = .ok (.goto 19, 3) := by decide +kernel
theorem dX12_ground_13 : decode cX12_ground 13 = .ok (.aload_n 0, 1) := by decide +kernel
theorem dX12_ground_14 : decode cX12_ground 14 = .ok (.getfield 52, 3) := by decide +kernel
theorem dX12_ground_17 : decode cX12_ground 17 = .ok (.bipush 85, 2) := by decide +kernel
theorem dX12_ground_19 : decode cX12_ground 19 = .ok (.iaload, 1) := by decide +kernel
theorem dX12_ground_20 : decode cX12_ground 20 = .ok (.iconst 5, 1) := by decide +kernel
theorem dX12_ground_21 : decode cX12_ground 21 = .ok (.if_icmp .ge 7, 3) := by decide +kernel
theorem dX12_ground_24 : decode cX12_ground 24 = .ok (.iconst 4, 1) := by decide +kernel
theorem dX12_ground_25 : decode cX12_ground 25 = .ok (.goto 4, 3) := by decide +kernel
theorem dX12_ground_28 : decode cX12_ground 28 = .ok (.iconst (-1), 1) := by decide +kernel
theorem dX12_ground_29 : decode cX12_ground 29 = .ok (.invokevirtual 354, 3) := by decide +kernel
theorem dX12_ground_32 : decode cX12_ground 32 = .ok (.ifCond .eq 5, 3) := by decide +kernel
theorem dX12_ground_35 : decode cX12_ground 35 = .ok (.iconst (-1), 1) := by decide +kernel
theorem dX12_ground_36 : decode cX12_ground 36 = .ok (.ireturn, 1) := by decide +kernel
theorem dX12_ground_37 : decode cX12_ground 37 = .ok (.aload_n 0, 1) := by decide +kernel
theorem dX12_ground_38 : decode cX12_ground 38 = .ok (.invokevirtual 357, 3) := by decide +kernel
theorem dX12_ground_41 : decode cX12_ground 41 = .ok (.aload_n 0, 1) := by decide +kernel
theorem dX12_ground_42 : decode cX12_ground 42 = .ok (.getfield 52, 3) := by decide +kernel
theorem dX12_ground_45 : decode cX12_ground 45 = .ok (.iconst 0, 1) := by decide +kernel
theorem dX12_ground_46 : decode cX12_ground 46 = .ok (.iload_n 1, 1) := by decide +kernel
theorem dX12_ground_47 : decode cX12_ground 47 = .ok (.iadd, 1) := by decide +kernel
theorem dX12_ground_48 : decode cX12_ground 48 = .ok (.bipush 99, 2) := by decide +kernel
theorem dX12_ground_50 : decode cX12_ground 50 = .ok (.aload_n 0, 1) := by decide +kernel
theorem dX12_ground_51 : decode cX12_ground 51 = .ok (.getfield 52, 3) := by decide +kernel
theorem dX12_ground_54 : decode cX12_ground 54 = .ok (.iconst 0, 1) := by decide +kernel
theorem dX12_ground_55 : decode cX12_ground 55 = .ok (.iload_n 1, 1) := by decide +kernel
theorem dX12_ground_56 : decode cX12_ground 56 = .ok (.iadd, 1) := by decide +kernel
theorem dX12_ground_57 : decode cX12_ground 57 = .ok (.iaload, 1) := by decide +kernel
theorem dX12_ground_58 : decode cX12_ground 58 = .ok (.bipush 10, 2) := by decide +kernel
theorem dX12_ground_60 : decode cX12_ground 60 = .ok (.iadd, 1) := by decide +kernel
theorem dX12_ground_61 : decode cX12_ground 61 = .ok (.invokestatic 253, 3) := by decide +kernel
theorem dX12_ground_64 : decode cX12_ground 64 = .ok (.iastore, 1) := by decide +kernel
theorem dX12_ground_65 : decode cX12_ground 65 = .ok (.aload_n 0, 1) := by decide +kernel
theorem dX12_ground_66 : decode cX12_ground 66 = .ok (.getfield 52, 3) := by decide +kernel
theorem dX12_ground_69 : decode cX12_ground 69 = .ok (.bipush 85, 2) := by decide +kernel
theorem dX12_ground_71 : decode cX12_ground 71 = .ok (.dup2, 1) := by decide +kernel
theorem dX12_ground_72 : decode cX12_ground 72 = .ok (.iaload, 1) := by decide +kernel
theorem dX12_ground_73 : decode cX12_ground 73 = .ok (.iconst 5, 1) := by decide +kernel
theorem dX12_ground_74 : decode cX12_ground 74 = .ok (.isub, 1) := by decide +kernel
theorem dX12_ground_75 : decode cX12_ground 75 = .ok (.iastore, 1) := by decide +kernel
theorem dX12_ground_76 : decode cX12_ground 76 = .ok (.aload_n 0, 1) := by decide +kernel
theorem dX12_ground_77 : decode cX12_ground 77 = .ok (.getfield 52, 3) := by decide +kernel
theorem dX12_ground_80 : decode cX12_ground 80 = .ok (.iconst 0, 1) := by decide +kernel
theorem dX12_ground_81 : decode cX12_ground 81 = .ok (.iload_n 1, 1) := by decide +kernel
theorem dX12_ground_82 : decode cX12_ground 82 = .ok (.iadd, 1) := by decide +kernel
theorem dX12_ground_83 : decode cX12_ground 83 = .ok (.iaload, 1) := by decide +kernel
theorem dX12_ground_84 : decode cX12_ground 84 = .ok (.ireturn, 1) := by decide +kernel
theorem dX12_passSummer_0 : decode cX12_passSummer 0 = .ok (.iconst 0, 1) := by decide +kernel
theorem dX12_passSummer_1 : decode cX12_passSummer 1 = .ok (.istore_n 1, 1) := by decide +kernel
theorem dX12_passSummer_2 : decode cX12_passSummer 2 = .ok (.iload_n 1, 1) := by decide +kernel
theorem dX12_passSummer_3 : decode cX12_passSummer 3 = .ok (.aload_n 0, 1) := by decide +kernel
theorem dX12_passSummer_4 : decode cX12_passSummer 4 = .ok (.getfield 52, 3) := by decide +kernel
theorem dX12_passSummer_7 : decode cX12_passSummer 7 = .ok (.bipush 84, 2) := by decide +kernel
theorem dX12_passSummer_9 : decode cX12_passSummer 9 = .ok (.iaload, 1) := by decide +kernel
theorem dX12_passSummer_10 : decode cX12_passSummer 10 = .ok (.if_icmp .ge 47, 3) := by decide +kernel
theorem dX12_passSummer_13 : decode cX12_passSummer 13 = .ok (.aload_n 0, 1) := by decide +kernel
theorem dX12_passSummer_14 : decode cX12_passSummer 14 = .ok (.iload_n 1, 1) := by decide +kernel
theorem dX12_passSummer_15 : decode cX12_passSummer 15 = .ok (.iconst 2, 1) := by decide +kernel
theorem dX12_passSummer_16 : decode cX12_passSummer 16 = .ok (.aload_n 0, 1) := by decide +kernel
theorem dX12_passSummer_17 : decode cX12_passSummer 17 = .ok (.iload_n 1, 1) := by decide +kernel
theorem dX12_passSummer_18 : decode cX12_passSummer 18 = .ok (.iconst 3, 1) := by decide +kernel
theorem dX12_passSummer_19 : decode cX12_passSummer 19 = .ok (.invokevirtual 306, 3) := by decide +kernel
theorem dX12_passSummer_22 : decode cX12_passSummer 22 = .ok (.iconst 1, 1) := by decide +kernel
theorem dX12_passSummer_23 : decode cX12_passSummer 23 = .ok (.if_icmp .ne 12, 3) := by decide +kernel
theorem dX12_passSummer_26 : decode cX12_passSummer 26 = .ok (.aload_n 0, 1) := by decide +kernel
theorem dX12_passSummer_27 : decode cX12_passSummer 27 = .ok (.iload_n 1, 1) := by decide +kernel
theorem dX12_passSummer_28 : decode cX12_passSummer 28 = .ok (.iconst 2, 1) := by decide +kernel
theorem dX12_passSummer_29 : decode cX12_passSummer 29 = .ok (.invokevirtual 306, 3) := by decide +kernel
theorem dX12_passSummer_32 : decode cX12_passSummer 32 = .ok (.goto 16, 3) := by decide +kernel
theorem dX12_passSummer_35 : decode cX12_passSummer 35 = .ok (.bipush 9, 2) := by decide +kernel
theorem dX12_passSummer_37 : decode cX12_passSummer 37 = .ok (.aload_n 0, 1) := by decide +kernel
theorem dX12_passSummer_38 : decode cX12_passSummer 38 = .ok (.iload_n 1, 1) := by decide +kernel
theorem dX12_passSummer_39 : decode cX12_passSummer 39 = .ok (.iconst 2, 1) := by decide +kernel
theorem dX12_passSummer_40 : decode cX12_passSummer 40 = .ok (.invokevirtual 306, 3) := by decide +kernel
theorem dX12_passSummer_43 : decode cX12_passSummer 43 = .ok (.iconst 1, 1) := by decide +kernel
theorem dX12_passSummer_44 : decode cX12_passSummer 44 = .ok (.iadd, 1) := by decide +kernel
theorem dX12_passSummer_45 : decode cX12_passSummer 45 = .ok (.invokestatic 253, 3) := by decide +kernel
theorem dX12_passSummer_48 : decode cX12_passSummer 48 = .ok (.invokevirtual 302, 3) := by decide +kernel
theorem dX12_passSummer_51 : decode cX12_passSummer 51 = .ok (.iinc 1 1, 3) := by decide +kernel
theorem dX12_passSummer_54 : decode cX12_passSummer 54 = .ok (.goto (-52), 3) := by decide +kernel
theorem dX12_passSummer_57 : decode cX12_passSummer 57 = .ok (.aload_n 0, 1) := by decide +kernel
theorem dX12_passSummer_58 : decode cX12_passSummer 58 = .ok (.getfield 52, 3) := by decide +kernel
theorem dX12_passSummer_61 : decode cX12_passSummer 61 = .ok (.bipush 85, 2) := by decide +kernel
theorem dX12_passSummer_63 : decode cX12_passSummer 63 = .ok (.bipush 99, 2) := by decide +kernel
theorem dX12_passSummer_65 : decode cX12_passSummer 65 = .ok (.aload_n 0, 1) := by decide +kernel
theorem dX12_passSummer_66 : decode cX12_passSummer 66 = .ok (.getfield 52, 3) := by decide +kernel
theorem dX12_passSummer_69 : decode cX12_passSummer 69 = .ok (.bipush 85, 2) := by decide +kernel
theorem dX12_passSummer_71 : decode cX12_passSummer 71 = .ok (.iaload, 1) := by decide +kernel
theorem dX12_passSummer_72 : decode cX12_passSummer 72 = .ok (.iconst 3, 1) := by decide +kernel
theorem dX12_passSummer_73 : decode cX12_passSummer 73 = .ok (.iadd, 1) := by decide +kernel
theorem dX12_passSummer_74 : decode cX12_passSummer 74 = .ok (.invokestatic 253, 3) := by decide +kernel
theorem dX12_passSummer_77 : decode cX12_passSummer 77 = .ok (.iastore, 1) := by decide +kernel
theorem dX12_passSummer_78 : decode cX12_passSummer 78 = .ok (.aload_n 0, 1) := by decide +kernel
theorem dX12_passSummer_79 : decode cX12_passSummer 79 = .ok (.getfield 52, 3) := by decide +kernel
theorem dX12_passSummer_82 : decode cX12_passSummer 82 = .ok (.bipush 86, 2) := by decide +kernel
theorem dX12_passSummer_84 : decode cX12_passSummer 84 = .ok (.dup2, 1) := by decide +kernel
theorem dX12_passSummer_85 : decode cX12_passSummer 85 = .ok (.iaload, 1) := by decide +kernel
theorem dX12_passSummer_86 : decode cX12_passSummer 86 = .ok (.iconst 1, 1) := by decide +kernel
theorem dX12_passSummer_87 : decode cX12_passSummer 87 = .ok (.iadd, 1) := by decide +kernel
theorem dX12_passSummer_88 : decode cX12_passSummer 88 = .ok (.iastore, 1) := by decide +kernel
theorem dX12_passSummer_89 : decode cX12_passSummer 89 = .ok (.return_, 1) := by decide +kernel
theorem dX12_areSummers_0 : decode cX12_areSummers 0 = .ok (.iload_n 1, 1) := by decide +kernel
theorem dX12_areSummers_1 : decode cX12_areSummers 1 = .ok (.iconst 1, 1) := by decide +kernel
theorem dX12_areSummers_2 : decode cX12_areSummers 2 = .ok (.bipush 60, 2) := by decide +kernel
theorem dX12_areSummers_4 : decode cX12_areSummers 4 = .ok (.invokestatic 223, 3) := by decide +kernel
theorem dX12_areSummers_7 : decode cX12_areSummers 7 = .ok (.ifCond .eq 22, 3) := by decide +kernel
theorem dX12_areSummers_10 : decode cX12_areSummers 10 = .ok (.aload_n 0, 1) := by decide +kernel
theorem dX12_areSummers_11 : decode cX12_areSummers 11 = .ok (.getfield 52, 3) := by decide +kernel
theorem dX12_areSummers_14 : decode cX12_areSummers 14 = .ok (.bipush 86, 2) := by decide +kernel
theorem dX12_areSummers_16 : decode cX12_areSummers 16 = .ok (.iaload, 1) := by decide +kernel
theorem dX12_areSummers_17 : decode cX12_areSummers 17 = .ok (.iload_n 1, 1) := by decide +kernel
theorem dX12_areSummers_18 : decode cX12_areSummers 18 = .ok (.iadd, 1) := by decide +kernel
theorem dX12_areSummers_19 : decode cX12_areSummers 19 = .ok (.sipush 999, 3) := by decide +kernel
theorem dX12_areSummers_22 : decode cX12_areSummers 22 = .ok (.if_icmp .gt 7, 3) := by decide +kernel
theorem dX12_areSummers_25 : decode cX12_areSummers 25 = .ok (.iconst 1, 1) := by decide +kernel
theorem dX12_areSummers_26 : decode cX12_areSummers 26 = .ok (.goto 4, 3) := by decide +kernel
theorem dX12_areSummers_29 : decode cX12_areSummers 29 = .ok (.iconst 0, 1) := by decide +kernel
theorem dX12_areSummers_30 : decode cX12_areSummers 30 = .ok (.ireturn, 1) := by decide +kernel
theorem dX12_summers_0 : decode cX12_summers 0 = .ok (.aload_n 0, 1) := by decide +kernel
theorem dX12_summers_1 : decode cX12_summers 1 = .ok (.aload_n 0, 1) := by decide +kernel
theorem dX12_summers_2 : decode cX12_summers 2 = .ok (.getfield 271, 3) := by decide +kernel
theorem dX12_summers_5 : decode cX12_summers 5 = .ok (.ifCond .ne 7, 3) := by decide +kernel
theorem dX12_summers_8 : decode cX12_summers 8 = .ok (.iconst 0, 1) := by decide +kernel
theorem dX12_summers_9 : decode cX12_summers 9 = .ok (.goto 16, 3) := by decide +kernel
theorem dX12_summers_12 : decode cX12_summers 12 = .ok (.aload_n 0, 1) := by decide +kernel
theorem dX12_summers_13 : decode cX12_summers 13 = .ok (.iload_n 1, 1) := by decide +kernel
theorem dX12_summers_14 : decode cX12_summers 14 = .ok (.invokevirtual 378, 3) := by decide +kernel
theorem dX12_summers_17 : decode cX12_summers 17 = .ok (.ifCond .ne 7, 3) := by decide +kernel
theorem dX12_summers_20 : decode cX12_summers 20 = .ok (.iconst 1, 1) := by decide +kernel
theorem dX12_summers_21 : decode cX12_summers 21 = .ok (.goto 4, 3) := by decide +kernel
theorem dX12_summers_24 : decode cX12_summers 24 = .ok (.iconst (-1), 1) := by decide +kernel
theorem dX12_summers_25 : decode cX12_summers 25 = .ok (.invokevirtual 354, 3) := by decide +kernel
theorem dX12_summers_28 : decode cX12_summers 28 = .ok (.ifCond .eq 5, 3) := by decide +kernel
theorem dX12_summers_31 : decode cX12_summers 31 = .ok (.iconst (-1), 1) := by decide +kernel
theorem dX12_summers_32 : decode cX12_summers 32 = .ok (.ireturn, 1) := by decide +kernel
theorem dX12_summers_33 : decode cX12_summers 33 = .ok (.iconst 0, 1) := by decide +kernel
theorem dX12_summers_34 : decode cX12_summers 34 = .ok (.istore_n 2, 1) := by decide +kernel
theorem dX12_summers_35 : decode cX12_summers 35 = .ok (.iload_n 2, 1) := by decide +kernel
theorem dX12_summers_36 : decode cX12_summers 36 = .ok (.iload_n 1, 1) := by decide +kernel
theorem dX12_summers_37 : decode cX12_summers 37 = .ok (.if_icmp .ge 17, 3) := by decide +kernel
theorem dX12_summers_40 : decode cX12_summers 40 = .ok (.aload_n 0, 1) := by decide +kernel
theorem dX12_summers_41 : decode cX12_summers 41 = .ok (.invokevirtual 357, 3) := by decide +kernel
theorem dX12_summers_44 : decode cX12_summers 44 = .ok (.aload_n 0, 1) := by decide +kernel
theorem dX12_summers_45 : decode cX12_summers 45 = .ok (.invokevirtual 381, 3) := by decide +kernel
theorem dX12_summers_48 : decode cX12_summers 48 = .ok (.iinc 2 1, 3) := by decide +kernel
theorem dX12_summers_51 : decode cX12_summers 51 = .ok (.goto (-16), 3) := by decide +kernel
theorem dX12_summers_54 : decode cX12_summers 54 = .ok (.aload_n 0, 1) := by decide +kernel
theorem dX12_summers_55 : decode cX12_summers 55 = .ok (.getfield 52, 3) := by decide +kernel
theorem dX12_summers_58 : decode cX12_summers 58 = .ok (.bipush 86, 2) := by decide +kernel
theorem dX12_summers_60 : decode cX12_summers 60 = .ok (.iaload, 1) := by decide +kernel
theorem dX12_summers_61 : decode cX12_summers 61 = .ok (.ireturn, 1) := by decide +kernel
theorem dX12_set_0 : decode cX12_set 0 = .ok (.iload_n 1, 1) := by decide +kernel
theorem dX12_set_1 : decode cX12_set 1 = .ok (.iconst 0, 1) := by decide +kernel
theorem dX12_set_2 : decode cX12_set 2 = .ok (.iconst 1, 1) := by decide +kernel
theorem dX12_set_3 : decode cX12_set 3 = .ok (.invokestatic 223, 3) := by decide +kernel
theorem dX12_set_6 : decode cX12_set 6 = .ok (.ifCond .eq 32, 3) := by decide +kernel
theorem dX12_set_9 : decode cX12_set 9 = .ok (.iload_n 2, 1) := by decide +kernel
theorem dX12_set_10 : decode cX12_set 10 = .ok (.iconst 0, 1) := by decide +kernel
theorem dX12_set_11 : decode cX12_set 11 = .ok (.bipush 9, 2) := by decide +kernel
theorem dX12_set_13 : decode cX12_set 13 = .ok (.invokestatic 223, 3) := by decide +kernel
theorem dX12_set_16 : decode cX12_set 16 = .ok (.ifCond .eq 22, 3) := by decide +kernel
theorem dX12_set_19 : decode cX12_set 19 = .ok (.iload_n 1, 1) := by decide +kernel
theorem dX12_set_20 : decode cX12_set 20 = .ok (.ifCond .ne 10, 3) := by decide +kernel
theorem dX12_set_23 : decode cX12_set 23 = .ok (.aload_n 0, 1) := by decide +kernel
theorem dX12_set_24 : decode cX12_set 24 = .ok (.getfield 62, 3) := by decide +kernel
theorem dX12_set_27 : decode cX12_set 27 = .ok (.goto 7, 3) := by decide +kernel
theorem dX12_set_30 : decode cX12_set 30 = .ok (.aload_n 0, 1) := by decide +kernel
theorem dX12_set_31 : decode cX12_set 31 = .ok (.getfield 384, 3) := by decide +kernel
theorem dX12_set_34 : decode cX12_set 34 = .ok (.iload_n 2, 1) := by decide +kernel
theorem dX12_set_35 : decode cX12_set 35 = .ok (.if_icmp .ne 5, 3) := by decide +kernel
theorem dX12_set_38 : decode cX12_set 38 = .ok (.iconst 0, 1) := by decide +kernel
theorem dX12_set_39 : decode cX12_set 39 = .ok (.ireturn, 1) := by decide +kernel
theorem dX12_set_40 : decode cX12_set 40 = .ok (.aload_n 0, 1) := by decide +kernel
theorem dX12_set_41 : decode cX12_set 41 = .ok (.iload_n 1, 1) := by decide +kernel
theorem dX12_set_42 : decode cX12_set 42 = .ok (.ifCond .ne 7, 3) := by decide +kernel
theorem dX12_set_45 : decode cX12_set 45 = .ok (.iload_n 2, 1) := by decide +kernel
theorem dX12_set_46 : decode cX12_set 46 = .ok (.goto 7, 3) := by decide +kernel
theorem dX12_set_49 : decode cX12_set 49 = .ok (.aload_n 0, 1) := by decide +kernel
theorem dX12_set_50 : decode cX12_set 50 = .ok (.getfield 62, 3) := by decide +kernel
theorem dX12_set_53 : decode cX12_set 53 = .ok (.putfield 62, 3) := by decide +kernel
theorem dX12_set_56 : decode cX12_set 56 = .ok (.aload_n 0, 1) := by decide +kernel
theorem dX12_set_57 : decode cX12_set 57 = .ok (.iload_n 1, 1) := by decide +kernel
theorem dX12_set_58 : decode cX12_set 58 = .ok (.iconst 1, 1) := by decide +kernel
theorem dX12_set_59 : decode cX12_set 59 = .ok (.if_icmp .ne 7, 3) := by decide +kernel
theorem dX12_set_62 : decode cX12_set 62 = .ok (.iload_n 2, 1) := by decide +kernel
theorem dX12_set_63 : decode cX12_set 63 = .ok (.goto 7, 3) := by decide +kernel
theorem dX12_set_66 : decode cX12_set 66 = .ok (.aload_n 0, 1) := by decide +kernel
theorem dX12_set_67 : decode cX12_set 67 = .ok (.getfield 384, 3) := by decide +kernel
theorem dX12_set_70 : decode cX12_set 70 = .ok (.putfield 384, 3) := by decide +kernel
theorem dX12_set_73 : decode cX12_set 73 = .ok (.iconst 1, 1) := by decide +kernel
theorem dX12_set_74 : decode cX12_set 74 = .ok (.ireturn, 1) := by decide +kernel
theorem dX12_draw_0 : decode cX12_draw 0 = .ok (.aload_n 0, 1) := by decide +kernel
theorem dX12_draw_1 : decode cX12_draw 1 = .ok (.aload_n 0, 1) := by decide +kernel
theorem dX12_draw_2 : decode cX12_draw 2 = .ok (.getfield 387, 3) := by decide +kernel
theorem dX12_draw_5 : decode cX12_draw 5 = .ok (.ldc2_w 391, 3) := by decide +kernel
theorem dX12_draw_8 : decode cX12_draw 8 = .ok (.lmul, 1) := by decide +kernel
theorem dX12_draw_9 : decode cX12_draw 9 = .ok (.ldc2_w 393, 3) := by decide +kernel
theorem dX12_draw_12 : decode cX12_draw 12 = .ok (.ladd, 1) := by decide +kernel
theorem dX12_draw_13 : decode cX12_draw 13 = .ok (.putfield 387, 3) := by decide +kernel
theorem dX12_draw_16 : decode cX12_draw 16 = .ok (.aload_n 0, 1) := by decide +kernel
theorem dX12_draw_17 : decode cX12_draw 17 = .ok (.getfield 387, 3) := by decide +kernel
theorem dX12_draw_20 : decode cX12_draw 20 = .ok (.bipush 33, 2) := by decide +kernel
theorem dX12_draw_22 : decode cX12_draw 22 = .ok (.lushr, 1) := by decide +kernel
theorem dX12_draw_23 : decode cX12_draw 23 = .ok (.iload_n 1, 1) := by decide +kernel
theorem dX12_draw_24 : decode cX12_draw 24 = .ok (.i2l, 1) := by decide +kernel
theorem dX12_draw_25 : decode cX12_draw 25 = .ok (.lrem, 1) := by decide +kernel
theorem dX12_draw_26 : decode cX12_draw 26 = .ok (.l2i, 1) := by decide +kernel
theorem dX12_draw_27 : decode cX12_draw 27 = .ok (.ireturn, 1) := by decide +kernel
theorem dX12_heights_0 : decode cX12_heights 0 = .ok (.iconst 0, 1) := by decide +kernel
theorem dX12_heights_1 : decode cX12_heights 1 = .ok (.istore_n 1, 1) := by decide +kernel
theorem dX12_heights_2 : decode cX12_heights 2 = .ok (.iconst 0, 1) := by decide +kernel
theorem dX12_heights_3 : decode cX12_heights 3 = .ok (.istore_n 2, 1) := by decide +kernel
theorem dX12_heights_4 : decode cX12_heights 4 = .ok (.iload_n 2, 1) := by decide +kernel
theorem dX12_heights_5 : decode cX12_heights 5 = .ok (.aload_n 0, 1) := by decide +kernel
theorem dX12_heights_6 : decode cX12_heights 6 = .ok (.getfield 271, 3) := by decide +kernel
theorem dX12_heights_9 : decode cX12_heights 9 = .ok (.if_icmp .ge 18, 3) := by decide +kernel
theorem dX12_heights_12 : decode cX12_heights 12 = .ok (.iload_n 1, 1) := by decide +kernel
theorem dX12_heights_13 : decode cX12_heights 13 = .ok (.aload_n 0, 1) := by decide +kernel
theorem dX12_heights_14 : decode cX12_heights 14 = .ok (.iload_n 2, 1) := by decide +kernel
theorem dX12_heights_15 : decode cX12_heights 15 = .ok (.iconst 1, 1) := by decide +kernel
theorem dX12_heights_16 : decode cX12_heights 16 = .ok (.invokevirtual 277, 3) := by decide +kernel
theorem dX12_heights_19 : decode cX12_heights 19 = .ok (.iadd, 1) := by decide +kernel
theorem dX12_heights_20 : decode cX12_heights 20 = .ok (.istore_n 1, 1) := by decide +kernel
theorem dX12_heights_21 : decode cX12_heights 21 = .ok (.iinc 2 1, 3) := by decide +kernel
theorem dX12_heights_24 : decode cX12_heights 24 = .ok (.goto (-20), 3) := by decide +kernel
theorem dX12_heights_27 : decode cX12_heights 27 = .ok (.iload_n 1, 1) := by decide +kernel
theorem dX12_heights_28 : decode cX12_heights 28 = .ok (.ireturn, 1) := by decide +kernel
theorem dX12_drawStroke_0 : decode cX12_drawStroke 0 = .ok (.aload_n 0, 1) := by decide +kernel
theorem dX12_drawStroke_1 : decode cX12_drawStroke 1 = .ok (.aload_n 0, 1) := by decide +kernel
theorem dX12_drawStroke_2 : decode cX12_drawStroke 2 = .ok (.invokevirtual 395, 3) := by decide +kernel
theorem dX12_drawStroke_5 : decode cX12_drawStroke 5 = .ok (.invokevirtual 398, 3) := by decide +kernel
theorem dX12_drawStroke_8 : decode cX12_drawStroke 8 = .ok (.istore_n 1, 1) := by decide +kernel
theorem dX12_drawStroke_9 : decode cX12_drawStroke 9 = .ok (.iconst 0, 1) := by decide +kernel
theorem dX12_drawStroke_10 : decode cX12_drawStroke 10 = .ok (.istore_n 2, 1) := by decide +kernel
theorem dX12_drawStroke_11 : decode cX12_drawStroke 11 = .ok (.iload_n 1, 1) := by decide +kernel
theorem dX12_drawStroke_12 : decode cX12_drawStroke 12 = .ok (.aload_n 0, 1) := by decide +kernel
theorem dX12_drawStroke_13 : decode cX12_drawStroke 13 = .ok (.iload_n 2, 1) := by decide +kernel
theorem dX12_drawStroke_14 : decode cX12_drawStroke 14 = .ok (.iconst 1, 1) := by decide +kernel
theorem dX12_drawStroke_15 : decode cX12_drawStroke 15 = .ok (.invokevirtual 277, 3) := by decide +kernel
theorem dX12_drawStroke_18 : decode cX12_drawStroke 18 = .ok (.if_icmp .lt 18, 3) := by decide +kernel
theorem dX12_drawStroke_21 : decode cX12_drawStroke 21 = .ok (.iload_n 1, 1) := by decide +kernel
theorem dX12_drawStroke_22 : decode cX12_drawStroke 22 = .ok (.aload_n 0, 1) := by decide +kernel
theorem dX12_drawStroke_23 : decode cX12_drawStroke 23 = .ok (.iload_n 2, 1) := by decide +kernel
theorem dX12_drawStroke_24 : decode cX12_drawStroke 24 = .ok (.iconst 1, 1) := by decide +kernel
theorem dX12_drawStroke_25 : decode cX12_drawStroke 25 = .ok (.invokevirtual 277, 3) := by decide +kernel
theorem dX12_drawStroke_28 : decode cX12_drawStroke 28 = .ok (.isub, 1) := by decide +kernel
theorem dX12_drawStroke_29 : decode cX12_drawStroke 29 = .ok (.istore_n 1, 1) := by decide +kernel
theorem dX12_drawStroke_30 : decode cX12_drawStroke 30 = .ok (.iinc 2 1, 3) := by decide +kernel
theorem dX12_drawStroke_33 : decode cX12_drawStroke 33 = .ok (.goto (-22), 3) := by decide +kernel
theorem dX12_drawStroke_36 : decode cX12_drawStroke 36 = .ok (.aload_n 0, 1) := by decide +kernel
theorem dX12_drawStroke_37 : decode cX12_drawStroke 37 = .ok (.iload_n 2, 1) := by decide +kernel
theorem dX12_drawStroke_38 : decode cX12_drawStroke 38 = .ok (.aload_n 0, 1) := by decide +kernel
theorem dX12_drawStroke_39 : decode cX12_drawStroke 39 = .ok (.bipush 99, 2) := by decide +kernel
theorem dX12_drawStroke_41 : decode cX12_drawStroke 41 = .ok (.invokevirtual 398, 3) := by decide +kernel
theorem dX12_drawStroke_44 : decode cX12_drawStroke 44 = .ok (.iconst 1, 1) := by decide +kernel
theorem dX12_drawStroke_45 : decode cX12_drawStroke 45 = .ok (.iadd, 1) := by decide +kernel
theorem dX12_drawStroke_46 : decode cX12_drawStroke 46 = .ok (.invokevirtual 360, 3) := by decide +kernel
theorem dX12_drawStroke_49 : decode cX12_drawStroke 49 = .ok (.pop, 1) := by decide +kernel
theorem dX12_drawStroke_50 : decode cX12_drawStroke 50 = .ok (.return_, 1) := by decide +kernel
theorem dX12_decades_0 : decode cX12_decades 0 = .ok (.aload_n 0, 1) := by decide +kernel
theorem dX12_decades_1 : decode cX12_decades 1 = .ok (.getfield 271, 3) := by decide +kernel
theorem dX12_decades_4 : decode cX12_decades 4 = .ok (.ifCond .eq 11, 3) := by decide +kernel
theorem dX12_decades_7 : decode cX12_decades 7 = .ok (.aload_n 0, 1) := by decide +kernel
theorem dX12_decades_8 : decode cX12_decades 8 = .ok (.iload_n 1, 1) := by decide +kernel
theorem dX12_decades_9 : decode cX12_decades 9 = .ok (.invokevirtual 378, 3) := by decide +kernel
theorem dX12_decades_12 : decode cX12_decades 12 = .ok (.ifCond .ne 5, 3) := by decide +kernel
theorem dX12_decades_15 : decode cX12_decades 15 = .ok (.iconst (-1), 1) := by decide +kernel
theorem dX12_decades_16 : decode cX12_decades 16 = .ok (.ireturn, 1) := by decide +kernel
theorem dX12_decades_17 : decode cX12_decades 17 = .ok (.aload_n 0, 1) := by decide +kernel
theorem dX12_decades_18 : decode cX12_decades 18 = .ok (.lload_n 2, 1) := by decide +kernel
theorem dX12_decades_19 : decode cX12_decades 19 = .ok (.putfield 387, 3) := by decide +kernel
theorem dX12_decades_22 : decode cX12_decades 22 = .ok (.iconst 0, 1) := by decide +kernel
theorem dX12_decades_23 : decode cX12_decades 23 = .ok (.istore 4, 2) := by decide +kernel
theorem dX12_decades_25 : decode cX12_decades 25 = .ok (.iload 4, 2) := by decide +kernel
theorem dX12_decades_27 : decode cX12_decades 27 = .ok (.iload_n 1, 1) := by decide +kernel
theorem dX12_decades_28 : decode cX12_decades 28 = .ok (.if_icmp .ge 74, 3) := by decide +kernel
theorem dX12_decades_31 : decode cX12_decades 31 = .ok (.aload_n 0, 1) := by decide +kernel
theorem dX12_decades_32 : decode cX12_decades 32 = .ok (.invokevirtual 357, 3) := by decide +kernel
theorem dX12_decades_35 : decode cX12_decades 35 = .ok (.aload_n 0, 1) := by decide +kernel
theorem dX12_decades_36 : decode cX12_decades 36 = .ok (.bipush 10, 2) := by decide +kernel
theorem dX12_decades_38 : decode cX12_decades 38 = .ok (.invokevirtual 398, 3) := by decide +kernel
theorem dX12_decades_41 : decode cX12_decades 41 = .ok (.aload_n 0, 1) := by decide +kernel
theorem dX12_decades_42 : decode cX12_decades 42 = .ok (.getfield 62, 3) := by decide +kernel
theorem dX12_decades_45 : decode cX12_decades 45 = .ok (.if_icmp .ge 7, 3) := by decide +kernel
theorem dX12_decades_48 : decode cX12_decades 48 = .ok (.aload_n 0, 1) := by decide +kernel
theorem dX12_decades_49 : decode cX12_decades 49 = .ok (.invokevirtual 401, 3) := by decide +kernel
theorem dX12_decades_52 : decode cX12_decades 52 = .ok (.aload_n 0, 1) := by decide +kernel
theorem dX12_decades_53 : decode cX12_decades 53 = .ok (.bipush 10, 2) := by decide +kernel
theorem dX12_decades_55 : decode cX12_decades 55 = .ok (.invokevirtual 398, 3) := by decide +kernel
theorem dX12_decades_58 : decode cX12_decades 58 = .ok (.aload_n 0, 1) := by decide +kernel
theorem dX12_decades_59 : decode cX12_decades 59 = .ok (.getfield 384, 3) := by decide +kernel
theorem dX12_decades_62 : decode cX12_decades 62 = .ok (.if_icmp .ge 30, 3) := by decide +kernel
theorem dX12_decades_65 : decode cX12_decades 65 = .ok (.aload_n 0, 1) := by decide +kernel
theorem dX12_decades_66 : decode cX12_decades 66 = .ok (.getfield 52, 3) := by decide +kernel
theorem dX12_decades_69 : decode cX12_decades 69 = .ok (.bipush 84, 2) := by decide +kernel
theorem dX12_decades_71 : decode cX12_decades 71 = .ok (.iaload, 1) := by decide +kernel
theorem dX12_decades_72 : decode cX12_decades 72 = .ok (.ifCond .le 20, 3) := by decide +kernel
theorem dX12_decades_75 : decode cX12_decades 75 = .ok (.aload_n 0, 1) := by decide +kernel
theorem dX12_decades_76 : decode cX12_decades 76 = .ok (.aload_n 0, 1) := by decide +kernel
theorem dX12_decades_77 : decode cX12_decades 77 = .ok (.aload_n 0, 1) := by decide +kernel
theorem dX12_decades_78 : decode cX12_decades 78 = .ok (.getfield 52, 3) := by decide +kernel
theorem dX12_decades_81 : decode cX12_decades 81 = .ok (.bipush 84, 2) := by decide +kernel
theorem dX12_decades_83 : decode cX12_decades 83 = .ok (.iaload, 1) := by decide +kernel
theorem dX12_decades_84 : decode cX12_decades 84 = .ok (.invokevirtual 398, 3) := by decide +kernel
theorem dX12_decades_87 : decode cX12_decades 87 = .ok (.iconst 3, 1) := by decide +kernel
theorem dX12_decades_88 : decode cX12_decades 88 = .ok (.iconst 1, 1) := by decide +kernel
theorem dX12_decades_89 : decode cX12_decades 89 = .ok (.invokevirtual 302, 3) := by decide +kernel
theorem dX12_decades_92 : decode cX12_decades 92 = .ok (.aload_n 0, 1) := by decide +kernel
theorem dX12_decades_93 : decode cX12_decades 93 = .ok (.invokevirtual 381, 3) := by decide +kernel
theorem dX12_decades_96 : decode cX12_decades 96 = .ok (.iinc 4 1, 3) := by decide +kernel
theorem dX12_decades_99 : decode cX12_decades 99 = .ok (.goto (-74), 3) := by decide +kernel
theorem dX12_decades_102 : decode cX12_decades 102 = .ok (.aload_n 0, 1) := by decide +kernel
theorem dX12_decades_103 : decode cX12_decades 103 = .ok (.getfield 52, 3) := by decide +kernel
theorem dX12_decades_106 : decode cX12_decades 106 = .ok (.bipush 86, 2) := by decide +kernel
theorem dX12_decades_108 : decode cX12_decades 108 = .ok (.iaload, 1) := by decide +kernel
theorem dX12_decades_109 : decode cX12_decades 109 = .ok (.ireturn, 1) := by decide +kernel
theorem dX12_status_0 : decode cX12_status 0 = .ok (.iload_n 1, 1) := by decide +kernel
theorem dX12_status_1 : decode cX12_status 1 = .ok (.iconst 0, 1) := by decide +kernel
theorem dX12_status_2 : decode cX12_status 2 = .ok (.iconst 4, 1) := by decide +kernel
theorem dX12_status_3 : decode cX12_status 3 = .ok (.invokestatic 223, 3) := by decide +kernel
theorem dX12_status_6 : decode cX12_status 6 = .ok (.ifCond .eq 12, 3) := by decide +kernel
theorem dX12_status_9 : decode cX12_status 9 = .ok (.aload_n 0, 1) := by decide +kernel
theorem dX12_status_10 : decode cX12_status 10 = .ok (.getfield 55, 3) := by decide +kernel
theorem dX12_status_13 : decode cX12_status 13 = .ok (.iload_n 1, 1) := by decide +kernel
theorem dX12_status_14 : decode cX12_status 14 = .ok (.iaload, 1) := by decide +kernel
theorem dX12_status_15 : decode cX12_status 15 = .ok (.goto 4, 3) := by decide +kernel
theorem dX12_status_18 : decode cX12_status 18 = .ok (.iconst (-1), 1) := by decide +kernel
theorem dX12_status_19 : decode cX12_status 19 = .ok (.ireturn, 1) := by decide +kernel
theorem dX12_undo_0 : decode cX12_undo 0 = .ok (.aload_n 0, 1) := by decide +kernel
theorem dX12_undo_1 : decode cX12_undo 1 = .ok (.getfield 289, 3) := by decide +kernel
theorem dX12_undo_4 : decode cX12_undo 4 = .ok (.ifCond .ne 5, 3) := by decide +kernel
theorem dX12_undo_7 : decode cX12_undo 7 = .ok (.iconst (-1), 1) := by decide +kernel
theorem dX12_undo_8 : decode cX12_undo 8 = .ok (.ireturn, 1) := by decide +kernel
theorem dX12_undo_9 : decode cX12_undo 9 = .ok (.aload_n 0, 1) := by decide +kernel
theorem dX12_undo_10 : decode cX12_undo 10 = .ok (.dup, 1) := by decide +kernel
theorem dX12_undo_11 : decode cX12_undo 11 = .ok (.getfield 289, 3) := by decide +kernel
theorem dX12_undo_14 : decode cX12_undo 14 = .ok (.iconst 1, 1) := by decide +kernel
theorem dX12_undo_15 : decode cX12_undo 15 = .ok (.isub, 1) := by decide +kernel
theorem dX12_undo_16 : decode cX12_undo 16 = .ok (.putfield 289, 3) := by decide +kernel
theorem dX12_undo_19 : decode cX12_undo 19 = .ok (.iconst 0, 1) := by decide +kernel
theorem dX12_undo_20 : decode cX12_undo 20 = .ok (.istore_n 1, 1) := by decide +kernel
theorem dX12_undo_21 : decode cX12_undo 21 = .ok (.iload_n 1, 1) := by decide +kernel
theorem dX12_undo_22 : decode cX12_undo 22 = .ok (.sipush 268, 3) := by decide +kernel
theorem dX12_undo_25 : decode cX12_undo 25 = .ok (.if_icmp .ge 30, 3) := by decide +kernel
theorem dX12_undo_28 : decode cX12_undo 28 = .ok (.aload_n 0, 1) := by decide +kernel
theorem dX12_undo_29 : decode cX12_undo 29 = .ok (.getfield 52, 3) := by decide +kernel
theorem dX12_undo_32 : decode cX12_undo 32 = .ok (.iload_n 1, 1) := by decide +kernel
theorem dX12_undo_33 : decode cX12_undo 33 = .ok (.aload_n 0, 1) := by decide +kernel
theorem dX12_undo_34 : decode cX12_undo 34 = .ok (.getfield 77, 3) := by decide +kernel
theorem dX12_undo_37 : decode cX12_undo 37 = .ok (.sipush 268, 3) := by decide +kernel
theorem dX12_undo_40 : decode cX12_undo 40 = .ok (.aload_n 0, 1) := by decide +kernel
theorem dX12_undo_41 : decode cX12_undo 41 = .ok (.getfield 289, 3) := by decide +kernel
theorem dX12_undo_44 : decode cX12_undo 44 = .ok (.imul, 1) := by decide +kernel
theorem dX12_undo_45 : decode cX12_undo 45 = .ok (.iload_n 1, 1) := by decide +kernel
theorem dX12_undo_46 : decode cX12_undo 46 = .ok (.iadd, 1) := by decide +kernel
theorem dX12_undo_47 : decode cX12_undo 47 = .ok (.iaload, 1) := by decide +kernel
theorem dX12_undo_48 : decode cX12_undo 48 = .ok (.iastore, 1) := by decide +kernel
theorem dX12_undo_49 : decode cX12_undo 49 = .ok (.iinc 1 1, 3) := by decide +kernel
theorem dX12_undo_52 : decode cX12_undo 52 = .ok (.goto (-31), 3) := by decide +kernel
theorem dX12_undo_55 : decode cX12_undo 55 = .ok (.aload_n 0, 1) := by decide +kernel
theorem dX12_undo_56 : decode cX12_undo 56 = .ok (.getfield 289, 3) := by decide +kernel
theorem dX12_undo_59 : decode cX12_undo 59 = .ok (.ireturn, 1) := by decide +kernel
theorem dX12_log_0 : decode cX12_log 0 = .ok (.iload_n 1, 1) := by decide +kernel
theorem dX12_log_1 : decode cX12_log 1 = .ok (.iconst 0, 1) := by decide +kernel
theorem dX12_log_2 : decode cX12_log 2 = .ok (.aload_n 0, 1) := by decide +kernel
theorem dX12_log_3 : decode cX12_log 3 = .ok (.getfield 52, 3) := by decide +kernel
theorem dX12_log_6 : decode cX12_log 6 = .ok (.bipush 87, 2) := by decide +kernel
theorem dX12_log_8 : decode cX12_log 8 = .ok (.iaload, 1) := by decide +kernel
theorem dX12_log_9 : decode cX12_log 9 = .ok (.iconst 1, 1) := by decide +kernel
theorem dX12_log_10 : decode cX12_log 10 = .ok (.isub, 1) := by decide +kernel
theorem dX12_log_11 : decode cX12_log 11 = .ok (.invokestatic 223, 3) := by decide +kernel
theorem dX12_log_14 : decode cX12_log 14 = .ok (.ifCond .eq 38, 3) := by decide +kernel
theorem dX12_log_17 : decode cX12_log 17 = .ok (.iload_n 2, 1) := by decide +kernel
theorem dX12_log_18 : decode cX12_log 18 = .ok (.iconst 0, 1) := by decide +kernel
theorem dX12_log_19 : decode cX12_log 19 = .ok (.iconst 2, 1) := by decide +kernel
theorem dX12_log_20 : decode cX12_log 20 = .ok (.invokestatic 223, 3) := by decide +kernel
theorem dX12_log_23 : decode cX12_log 23 = .ok (.ifCond .eq 29, 3) := by decide +kernel
theorem dX12_log_26 : decode cX12_log 26 = .ok (.aload_n 0, 1) := by decide +kernel
theorem dX12_log_27 : decode cX12_log 27 = .ok (.getfield 52, 3) := by decide +kernel
theorem dX12_log_30 : decode cX12_log 30 = .ok (.bipush 88, 2) := by decide +kernel
theorem dX12_log_32 : decode cX12_log 32 = .ok (.iconst 3, 1) := by decide +kernel
theorem dX12_log_33 : decode cX12_log 33 = .ok (.aload_n 0, 1) := by decide +kernel
theorem dX12_log_34 : decode cX12_log 34 = .ok (.getfield 52, 3) := by decide +kernel
theorem dX12_log_37 : decode cX12_log 37 = .ok (.bipush 87, 2) := by decide +kernel
theorem dX12_log_39 : decode cX12_log 39 = .ok (.iaload, 1) := by decide +kernel
theorem dX12_log_40 : decode cX12_log 40 = .ok (.iconst 1, 1) := by decide +kernel
theorem dX12_log_41 : decode cX12_log 41 = .ok (.isub, 1) := by decide +kernel
theorem dX12_log_42 : decode cX12_log 42 = .ok (.iload_n 1, 1) := by decide +kernel
theorem dX12_log_43 : decode cX12_log 43 = .ok (.isub, 1) := by decide +kernel
theorem dX12_log_44 : decode cX12_log 44 = .ok (.imul, 1) := by decide +kernel
theorem dX12_log_45 : decode cX12_log 45 = .ok (.iadd, 1) := by decide +kernel
theorem dX12_log_46 : decode cX12_log 46 = .ok (.iload_n 2, 1) := by decide +kernel
theorem dX12_log_47 : decode cX12_log 47 = .ok (.iadd, 1) := by decide +kernel
theorem dX12_log_48 : decode cX12_log 48 = .ok (.iaload, 1) := by decide +kernel
theorem dX12_log_49 : decode cX12_log 49 = .ok (.goto 4, 3) := by decide +kernel
theorem dX12_log_52 : decode cX12_log 52 = .ok (.iconst (-1), 1) := by decide +kernel
theorem dX12_log_53 : decode cX12_log 53 = .ok (.ireturn, 1) := by decide +kernel
theorem dX12_keeps_0 : decode cX12_keeps 0 = .ok (.aload_n 0, 1) := by decide +kernel
theorem dX12_keeps_1 : decode cX12_keeps 1 = .ok (.iload_n 1, 1) := by decide +kernel
theorem dX12_keeps_2 : decode cX12_keeps 2 = .ok (.invokevirtual 342, 3) := by decide +kernel
theorem dX12_keeps_5 : decode cX12_keeps 5 = .ok (.ifCond .eq 28, 3) := by decide +kernel
theorem dX12_keeps_8 : decode cX12_keeps 8 = .ok (.aload_n 0, 1) := by decide +kernel
theorem dX12_keeps_9 : decode cX12_keeps 9 = .ok (.iload_n 3, 1) := by decide +kernel
theorem dX12_keeps_10 : decode cX12_keeps 10 = .ok (.invokevirtual 342, 3) := by decide +kernel
theorem dX12_keeps_13 : decode cX12_keeps 13 = .ok (.ifCond .eq 20, 3) := by decide +kernel
theorem dX12_keeps_16 : decode cX12_keeps 16 = .ok (.iload_n 2, 1) := by decide +kernel
theorem dX12_keeps_17 : decode cX12_keeps 17 = .ok (.invokestatic 351, 3) := by decide +kernel
theorem dX12_keeps_20 : decode cX12_keeps 20 = .ok (.ifCond .eq 13, 3) := by decide +kernel
theorem dX12_keeps_23 : decode cX12_keeps 23 = .ok (.aload_n 0, 1) := by decide +kernel
theorem dX12_keeps_24 : decode cX12_keeps 24 = .ok (.iload_n 1, 1) := by decide +kernel
theorem dX12_keeps_25 : decode cX12_keeps 25 = .ok (.iload_n 2, 1) := by decide +kernel
theorem dX12_keeps_26 : decode cX12_keeps 26 = .ok (.iload_n 3, 1) := by decide +kernel
theorem dX12_keeps_27 : decode cX12_keeps 27 = .ok (.invokevirtual 404, 3) := by decide +kernel
theorem dX12_keeps_30 : decode cX12_keeps 30 = .ok (.goto 4, 3) := by decide +kernel
theorem dX12_keeps_33 : decode cX12_keeps 33 = .ok (.iconst (-1), 1) := by decide +kernel
theorem dX12_keeps_34 : decode cX12_keeps 34 = .ok (.ireturn, 1) := by decide +kernel
theorem dX12_burning_0 : decode cX12_burning 0 = .ok (.aload_n 0, 1) := by decide +kernel
theorem dX12_burning_1 : decode cX12_burning 1 = .ok (.iload_n 1, 1) := by decide +kernel
theorem dX12_burning_2 : decode cX12_burning 2 = .ok (.invokevirtual 342, 3) := by decide +kernel
theorem dX12_burning_5 : decode cX12_burning 5 = .ok (.ifCond .eq 19, 3) := by decide +kernel
theorem dX12_burning_8 : decode cX12_burning 8 = .ok (.iload_n 2, 1) := by decide +kernel
theorem dX12_burning_9 : decode cX12_burning 9 = .ok (.invokestatic 351, 3) := by decide +kernel
theorem dX12_burning_12 : decode cX12_burning 12 = .ok (.ifCond .eq 12, 3) := by decide +kernel
theorem dX12_burning_15 : decode cX12_burning 15 = .ok (.aload_n 0, 1) := by decide +kernel
theorem dX12_burning_16 : decode cX12_burning 16 = .ok (.iload_n 1, 1) := by decide +kernel
theorem dX12_burning_17 : decode cX12_burning 17 = .ok (.iload_n 2, 1) := by decide +kernel
theorem dX12_burning_18 : decode cX12_burning 18 = .ok (.invokevirtual 348, 3) := by decide +kernel
theorem dX12_burning_21 : decode cX12_burning 21 = .ok (.goto 4, 3) := by decide +kernel
theorem dX12_burning_24 : decode cX12_burning 24 = .ok (.iconst (-1), 1) := by decide +kernel
theorem dX12_burning_25 : decode cX12_burning 25 = .ok (.ireturn, 1) := by decide +kernel
theorem dX12_lost_0 : decode cX12_lost 0 = .ok (.aload_n 0, 1) := by decide +kernel
theorem dX12_lost_1 : decode cX12_lost 1 = .ok (.iload_n 1, 1) := by decide +kernel
theorem dX12_lost_2 : decode cX12_lost 2 = .ok (.invokevirtual 342, 3) := by decide +kernel
theorem dX12_lost_5 : decode cX12_lost 5 = .ok (.ifCond .eq 10, 3) := by decide +kernel
theorem dX12_lost_8 : decode cX12_lost 8 = .ok (.iload_n 2, 1) := by decide +kernel
theorem dX12_lost_9 : decode cX12_lost 9 = .ok (.invokestatic 351, 3) := by decide +kernel
theorem dX12_lost_12 : decode cX12_lost 12 = .ok (.ifCond .ne 5, 3) := by decide +kernel
theorem dX12_lost_15 : decode cX12_lost 15 = .ok (.iconst (-1), 1) := by decide +kernel
theorem dX12_lost_16 : decode cX12_lost 16 = .ok (.ireturn, 1) := by decide +kernel
theorem dX12_lost_17 : decode cX12_lost 17 = .ok (.aload_n 0, 1) := by decide +kernel
theorem dX12_lost_18 : decode cX12_lost 18 = .ok (.iload_n 1, 1) := by decide +kernel
theorem dX12_lost_19 : decode cX12_lost 19 = .ok (.iload_n 2, 1) := by decide +kernel
theorem dX12_lost_20 : decode cX12_lost 20 = .ok (.invokevirtual 339, 3) := by decide +kernel
theorem dX12_lost_23 : decode cX12_lost 23 = .ok (.aload_n 0, 1) := by decide +kernel
theorem dX12_lost_24 : decode cX12_lost 24 = .ok (.getfield 324, 3) := by decide +kernel
theorem dX12_lost_27 : decode cX12_lost 27 = .ok (.ireturn, 1) := by decide +kernel
theorem dX12_tryCouples_0 : decode cX12_tryCouples 0 = .ok (.iload_n 1, 1) := by decide +kernel
theorem dX12_tryCouples_1 : decode cX12_tryCouples 1 = .ok (.aload_n 0, 1) := by decide +kernel
theorem dX12_tryCouples_2 : decode cX12_tryCouples 2 = .ok (.getfield 271, 3) := by decide +kernel
theorem dX12_tryCouples_5 : decode cX12_tryCouples 5 = .ok (.if_icmp .ne 84, 3) := by decide +kernel
theorem dX12_tryCouples_8 : decode cX12_tryCouples 8 = .ok (.iconst 0, 1) := by decide +kernel
theorem dX12_tryCouples_9 : decode cX12_tryCouples 9 = .ok (.istore 4, 2) := by decide +kernel
theorem dX12_tryCouples_11 : decode cX12_tryCouples 11 = .ok (.iconst 0, 1) := by decide +kernel
theorem dX12_tryCouples_12 : decode cX12_tryCouples 12 = .ok (.istore 5, 2) := by decide +kernel
theorem dX12_tryCouples_14 : decode cX12_tryCouples 14 = .ok (.iload 5, 2) := by decide +kernel
theorem dX12_tryCouples_16 : decode cX12_tryCouples 16 = .ok (.aload_n 0, 1) := by decide +kernel
theorem dX12_tryCouples_17 : decode cX12_tryCouples 17 = .ok (.getfield 271, 3) := by decide +kernel
theorem dX12_tryCouples_20 : decode cX12_tryCouples 20 = .ok (.if_icmp .ge 24, 3) := by decide +kernel
theorem dX12_tryCouples_23 : decode cX12_tryCouples 23 = .ok (.bipush 10, 2) := by decide +kernel
theorem dX12_tryCouples_25 : decode cX12_tryCouples 25 = .ok (.iload 4, 2) := by decide +kernel
theorem dX12_tryCouples_27 : decode cX12_tryCouples 27 = .ok (.imul, 1) := by decide +kernel
theorem dX12_tryCouples_28 : decode cX12_tryCouples 28 = .ok (.aload_n 0, 1) := by decide +kernel
theorem dX12_tryCouples_29 : decode cX12_tryCouples 29 = .ok (.getfield 80, 3) := by decide +kernel
theorem dX12_tryCouples_32 : decode cX12_tryCouples 32 = .ok (.iload 5, 2) := by decide +kernel
theorem dX12_tryCouples_34 : decode cX12_tryCouples 34 = .ok (.iaload, 1) := by decide +kernel
theorem dX12_tryCouples_35 : decode cX12_tryCouples 35 = .ok (.iadd, 1) := by decide +kernel
theorem dX12_tryCouples_36 : decode cX12_tryCouples 36 = .ok (.istore 4, 2) := by decide +kernel
theorem dX12_tryCouples_38 : decode cX12_tryCouples 38 = .ok (.iinc 5 1, 3) := by decide +kernel
theorem dX12_tryCouples_41 : decode cX12_tryCouples 41 = .ok (.goto (-27), 3) := by decide +kernel
theorem dX12_tryCouples_44 : decode cX12_tryCouples 44 = .ok (.aload_n 0, 1) := by decide +kernel
theorem dX12_tryCouples_45 : decode cX12_tryCouples 45 = .ok (.getfield 407, 3) := by decide +kernel
theorem dX12_tryCouples_48 : decode cX12_tryCouples 48 = .ok (.iconst (-1), 1) := by decide +kernel
theorem dX12_tryCouples_49 : decode cX12_tryCouples 49 = .ok (.if_icmp .eq 28, 3) := by decide +kernel
theorem dX12_tryCouples_52 : decode cX12_tryCouples 52 = .ok (.iload_n 3, 1) := by decide +kernel
theorem dX12_tryCouples_53 : decode cX12_tryCouples 53 = .ok (.aload_n 0, 1) := by decide +kernel
theorem dX12_tryCouples_54 : decode cX12_tryCouples 54 = .ok (.getfield 410, 3) := by decide +kernel
theorem dX12_tryCouples_57 : decode cX12_tryCouples 57 = .ok (.if_icmp .lt 20, 3) := by decide +kernel
theorem dX12_tryCouples_60 : decode cX12_tryCouples 60 = .ok (.iload_n 3, 1) := by decide +kernel
theorem dX12_tryCouples_61 : decode cX12_tryCouples 61 = .ok (.aload_n 0, 1) := by decide +kernel
theorem dX12_tryCouples_62 : decode cX12_tryCouples 62 = .ok (.getfield 410, 3) := by decide +kernel
theorem dX12_tryCouples_65 : decode cX12_tryCouples 65 = .ok (.if_icmp .ne 23, 3) := by decide +kernel
theorem dX12_tryCouples_68 : decode cX12_tryCouples 68 = .ok (.iload 4, 2) := by decide +kernel
theorem dX12_tryCouples_70 : decode cX12_tryCouples 70 = .ok (.aload_n 0, 1) := by decide +kernel
theorem dX12_tryCouples_71 : decode cX12_tryCouples 71 = .ok (.getfield 407, 3) := by decide +kernel
theorem dX12_tryCouples_74 : decode cX12_tryCouples 74 = .ok (.if_icmp .ge 14, 3) := by decide +kernel
theorem dX12_tryCouples_77 : decode cX12_tryCouples 77 = .ok (.aload_n 0, 1) := by decide +kernel
theorem dX12_tryCouples_78 : decode cX12_tryCouples 78 = .ok (.iload 4, 2) := by decide +kernel
theorem dX12_tryCouples_80 : decode cX12_tryCouples 80 = .ok (.putfield 407, 3) := by decide +kernel
theorem dX12_tryCouples_83 : decode cX12_tryCouples 83 = .ok (.aload_n 0, 1) := by decide +kernel
theorem dX12_tryCouples_84 : decode cX12_tryCouples 84 = .ok (.iload_n 3, 1) := by decide +kernel
theorem dX12_tryCouples_85 : decode cX12_tryCouples 85 = .ok (.putfield 410, 3) := by decide +kernel
theorem dX12_tryCouples_88 : decode cX12_tryCouples 88 = .ok (.return_, 1) := by decide +kernel
theorem dX12_tryCouples_89 : decode cX12_tryCouples 89 = .ok (.aload_n 0, 1) := by decide +kernel
theorem dX12_tryCouples_90 : decode cX12_tryCouples 90 = .ok (.getfield 80, 3) := by decide +kernel
theorem dX12_tryCouples_93 : decode cX12_tryCouples 93 = .ok (.iload_n 1, 1) := by decide +kernel
theorem dX12_tryCouples_94 : decode cX12_tryCouples 94 = .ok (.iaload, 1) := by decide +kernel
theorem dX12_tryCouples_95 : decode cX12_tryCouples 95 = .ok (.iconst (-1), 1) := by decide +kernel
theorem dX12_tryCouples_96 : decode cX12_tryCouples 96 = .ok (.if_icmp .eq 13, 3) := by decide +kernel
theorem dX12_tryCouples_99 : decode cX12_tryCouples 99 = .ok (.aload_n 0, 1) := by decide +kernel
theorem dX12_tryCouples_100 : decode cX12_tryCouples 100 = .ok (.iload_n 1, 1) := by decide +kernel
theorem dX12_tryCouples_101 : decode cX12_tryCouples 101 = .ok (.iconst 1, 1) := by decide +kernel
theorem dX12_tryCouples_102 : decode cX12_tryCouples 102 = .ok (.iadd, 1) := by decide +kernel
theorem dX12_tryCouples_103 : decode cX12_tryCouples 103 = .ok (.iload_n 2, 1) := by decide +kernel
theorem dX12_tryCouples_104 : decode cX12_tryCouples 104 = .ok (.iload_n 3, 1) := by decide +kernel
theorem dX12_tryCouples_105 : decode cX12_tryCouples 105 = .ok (.invokevirtual 413, 3) := by decide +kernel
theorem dX12_tryCouples_108 : decode cX12_tryCouples 108 = .ok (.return_, 1) := by decide +kernel
theorem dX12_tryCouples_109 : decode cX12_tryCouples 109 = .ok (.iload_n 2, 1) := by decide +kernel
theorem dX12_tryCouples_110 : decode cX12_tryCouples 110 = .ok (.ifCond .eq 26, 3) := by decide +kernel
theorem dX12_tryCouples_113 : decode cX12_tryCouples 113 = .ok (.aload_n 0, 1) := by decide +kernel
theorem dX12_tryCouples_114 : decode cX12_tryCouples 114 = .ok (.getfield 80, 3) := by decide +kernel
theorem dX12_tryCouples_117 : decode cX12_tryCouples 117 = .ok (.iload_n 1, 1) := by decide +kernel
theorem dX12_tryCouples_118 : decode cX12_tryCouples 118 = .ok (.iload_n 1, 1) := by decide +kernel
theorem dX12_tryCouples_119 : decode cX12_tryCouples 119 = .ok (.iastore, 1) := by decide +kernel
theorem dX12_tryCouples_120 : decode cX12_tryCouples 120 = .ok (.aload_n 0, 1) := by decide +kernel
theorem dX12_tryCouples_121 : decode cX12_tryCouples 121 = .ok (.iload_n 1, 1) := by decide +kernel
theorem dX12_tryCouples_122 : decode cX12_tryCouples 122 = .ok (.iconst 1, 1) := by decide +kernel
theorem dX12_tryCouples_123 : decode cX12_tryCouples 123 = .ok (.iadd, 1) := by decide +kernel
theorem dX12_tryCouples_124 : decode cX12_tryCouples 124 = .ok (.iconst 0, 1) := by decide +kernel
theorem dX12_tryCouples_125 : decode cX12_tryCouples 125 = .ok (.iload_n 3, 1) := by decide +kernel
theorem dX12_tryCouples_126 : decode cX12_tryCouples 126 = .ok (.invokevirtual 413, 3) := by decide +kernel
theorem dX12_tryCouples_129 : decode cX12_tryCouples 129 = .ok (.aload_n 0, 1) := by decide +kernel
theorem dX12_tryCouples_130 : decode cX12_tryCouples 130 = .ok (.getfield 80, 3) := by decide +kernel
theorem dX12_tryCouples_133 : decode cX12_tryCouples 133 = .ok (.iload_n 1, 1) := by decide +kernel
theorem dX12_tryCouples_134 : decode cX12_tryCouples 134 = .ok (.iconst (-1), 1) := by decide +kernel
theorem dX12_tryCouples_135 : decode cX12_tryCouples 135 = .ok (.iastore, 1) := by decide +kernel
theorem dX12_tryCouples_136 : decode cX12_tryCouples 136 = .ok (.iload_n 1, 1) := by decide +kernel
theorem dX12_tryCouples_137 : decode cX12_tryCouples 137 = .ok (.iconst 1, 1) := by decide +kernel
theorem dX12_tryCouples_138 : decode cX12_tryCouples 138 = .ok (.iadd, 1) := by decide +kernel
theorem dX12_tryCouples_139 : decode cX12_tryCouples 139 = .ok (.istore 4, 2) := by decide +kernel
theorem dX12_tryCouples_141 : decode cX12_tryCouples 141 = .ok (.iload 4, 2) := by decide +kernel
theorem dX12_tryCouples_143 : decode cX12_tryCouples 143 = .ok (.aload_n 0, 1) := by decide +kernel
theorem dX12_tryCouples_144 : decode cX12_tryCouples 144 = .ok (.getfield 271, 3) := by decide +kernel
theorem dX12_tryCouples_147 : decode cX12_tryCouples 147 = .ok (.if_icmp .ge 78, 3) := by decide +kernel
theorem dX12_tryCouples_150 : decode cX12_tryCouples 150 = .ok (.aload_n 0, 1) := by decide +kernel
theorem dX12_tryCouples_151 : decode cX12_tryCouples 151 = .ok (.getfield 80, 3) := by decide +kernel
theorem dX12_tryCouples_154 : decode cX12_tryCouples 154 = .ok (.iload 4, 2) := by decide +kernel
theorem dX12_tryCouples_156 : decode cX12_tryCouples 156 = .ok (.iaload, 1) := by decide +kernel
theorem dX12_tryCouples_157 : decode cX12_tryCouples 157 = .ok (.iconst (-1), 1) := by decide +kernel
theorem dX12_tryCouples_158 : decode cX12_tryCouples 158 = .ok (.if_icmp .ne 61, 3) := by decide +kernel
theorem dX12_tryCouples_161 : decode cX12_tryCouples 161 = .ok (.aload_n 0, 1) := by decide +kernel
theorem dX12_tryCouples_162 : decode cX12_tryCouples 162 = .ok (.iload_n 1, 1) := by decide +kernel
theorem dX12_tryCouples_163 : decode cX12_tryCouples 163 = .ok (.iload 4, 2) := by decide +kernel
theorem dX12_tryCouples_165 : decode cX12_tryCouples 165 = .ok (.invokevirtual 369, 3) := by decide +kernel
theorem dX12_tryCouples_168 : decode cX12_tryCouples 168 = .ok (.ifCond .ne 51, 3) := by decide +kernel
theorem dX12_tryCouples_171 : decode cX12_tryCouples 171 = .ok (.aload_n 0, 1) := by decide +kernel
theorem dX12_tryCouples_172 : decode cX12_tryCouples 172 = .ok (.getfield 80, 3) := by decide +kernel
theorem dX12_tryCouples_175 : decode cX12_tryCouples 175 = .ok (.iload_n 1, 1) := by decide +kernel
theorem dX12_tryCouples_176 : decode cX12_tryCouples 176 = .ok (.iload 4, 2) := by decide +kernel
theorem dX12_tryCouples_178 : decode cX12_tryCouples 178 = .ok (.iastore, 1) := by decide +kernel
theorem dX12_tryCouples_179 : decode cX12_tryCouples 179 = .ok (.aload_n 0, 1) := by decide +kernel
theorem dX12_tryCouples_180 : decode cX12_tryCouples 180 = .ok (.getfield 80, 3) := by decide +kernel
theorem dX12_tryCouples_183 : decode cX12_tryCouples 183 = .ok (.iload 4, 2) := by decide +kernel
theorem dX12_tryCouples_185 : decode cX12_tryCouples 185 = .ok (.iload_n 1, 1) := by decide +kernel
theorem dX12_tryCouples_186 : decode cX12_tryCouples 186 = .ok (.iastore, 1) := by decide +kernel
theorem dX12_tryCouples_187 : decode cX12_tryCouples 187 = .ok (.aload_n 0, 1) := by decide +kernel
theorem dX12_tryCouples_188 : decode cX12_tryCouples 188 = .ok (.iload_n 1, 1) := by decide +kernel
theorem dX12_tryCouples_189 : decode cX12_tryCouples 189 = .ok (.iconst 1, 1) := by decide +kernel
theorem dX12_tryCouples_190 : decode cX12_tryCouples 190 = .ok (.iadd, 1) := by decide +kernel
theorem dX12_tryCouples_191 : decode cX12_tryCouples 191 = .ok (.iload_n 2, 1) := by decide +kernel
theorem dX12_tryCouples_192 : decode cX12_tryCouples 192 = .ok (.iload_n 3, 1) := by decide +kernel
theorem dX12_tryCouples_193 : decode cX12_tryCouples 193 = .ok (.aload_n 0, 1) := by decide +kernel
theorem dX12_tryCouples_194 : decode cX12_tryCouples 194 = .ok (.iload_n 1, 1) := by decide +kernel
theorem dX12_tryCouples_195 : decode cX12_tryCouples 195 = .ok (.iload 4, 2) := by decide +kernel
theorem dX12_tryCouples_197 : decode cX12_tryCouples 197 = .ok (.invokevirtual 363, 3) := by decide +kernel
theorem dX12_tryCouples_200 : decode cX12_tryCouples 200 = .ok (.iadd, 1) := by decide +kernel
theorem dX12_tryCouples_201 : decode cX12_tryCouples 201 = .ok (.invokevirtual 413, 3) := by decide +kernel
theorem dX12_tryCouples_204 : decode cX12_tryCouples 204 = .ok (.aload_n 0, 1) := by decide +kernel
theorem dX12_tryCouples_205 : decode cX12_tryCouples 205 = .ok (.getfield 80, 3) := by decide +kernel
theorem dX12_tryCouples_208 : decode cX12_tryCouples 208 = .ok (.iload_n 1, 1) := by decide +kernel
theorem dX12_tryCouples_209 : decode cX12_tryCouples 209 = .ok (.iconst (-1), 1) := by decide +kernel
theorem dX12_tryCouples_210 : decode cX12_tryCouples 210 = .ok (.iastore, 1) := by decide +kernel
theorem dX12_tryCouples_211 : decode cX12_tryCouples 211 = .ok (.aload_n 0, 1) := by decide +kernel
theorem dX12_tryCouples_212 : decode cX12_tryCouples 212 = .ok (.getfield 80, 3) := by decide +kernel
theorem dX12_tryCouples_215 : decode cX12_tryCouples 215 = .ok (.iload 4, 2) := by decide +kernel
theorem dX12_tryCouples_217 : decode cX12_tryCouples 217 = .ok (.iconst (-1), 1) := by decide +kernel
theorem dX12_tryCouples_218 : decode cX12_tryCouples 218 = .ok (.iastore, 1) := by decide +kernel
theorem dX12_tryCouples_219 : decode cX12_tryCouples 219 = .ok (.iinc 4 1, 3) := by decide +kernel
theorem dX12_tryCouples_222 : decode cX12_tryCouples 222 = .ok (.goto (-81), 3) := by decide +kernel
theorem dX12_tryCouples_225 : decode cX12_tryCouples 225 = .ok (.return_, 1) := by decide +kernel
theorem dX12_couples_0 : decode cX12_couples 0 = .ok (.aload_n 0, 1) := by decide +kernel
theorem dX12_couples_1 : decode cX12_couples 1 = .ok (.getfield 271, 3) := by decide +kernel
theorem dX12_couples_4 : decode cX12_couples 4 = .ok (.ifCond .eq 12, 3) := by decide +kernel
theorem dX12_couples_7 : decode cX12_couples 7 = .ok (.iload_n 1, 1) := by decide +kernel
theorem dX12_couples_8 : decode cX12_couples 8 = .ok (.iconst 0, 1) := by decide +kernel
theorem dX12_couples_9 : decode cX12_couples 9 = .ok (.iconst 1, 1) := by decide +kernel
theorem dX12_couples_10 : decode cX12_couples 10 = .ok (.invokestatic 223, 3) := by decide +kernel
theorem dX12_couples_13 : decode cX12_couples 13 = .ok (.ifCond .ne 5, 3) := by decide +kernel
theorem dX12_couples_16 : decode cX12_couples 16 = .ok (.iconst (-1), 1) := by decide +kernel
theorem dX12_couples_17 : decode cX12_couples 17 = .ok (.ireturn, 1) := by decide +kernel
theorem dX12_couples_18 : decode cX12_couples 18 = .ok (.iconst 0, 1) := by decide +kernel
theorem dX12_couples_19 : decode cX12_couples 19 = .ok (.istore_n 2, 1) := by decide +kernel
theorem dX12_couples_20 : decode cX12_couples 20 = .ok (.iload_n 2, 1) := by decide +kernel
theorem dX12_couples_21 : decode cX12_couples 21 = .ok (.bipush 8, 2) := by decide +kernel
theorem dX12_couples_23 : decode cX12_couples 23 = .ok (.if_icmp .ge 16, 3) := by decide +kernel
theorem dX12_couples_26 : decode cX12_couples 26 = .ok (.aload_n 0, 1) := by decide +kernel
theorem dX12_couples_27 : decode cX12_couples 27 = .ok (.getfield 80, 3) := by decide +kernel
theorem dX12_couples_30 : decode cX12_couples 30 = .ok (.iload_n 2, 1) := by decide +kernel
theorem dX12_couples_31 : decode cX12_couples 31 = .ok (.iconst (-1), 1) := by decide +kernel
theorem dX12_couples_32 : decode cX12_couples 32 = .ok (.iastore, 1) := by decide +kernel
theorem dX12_couples_33 : decode cX12_couples 33 = .ok (.iinc 2 1, 3) := by decide +kernel
theorem dX12_couples_36 : decode cX12_couples 36 = .ok (.goto (-16), 3) := by decide +kernel
theorem dX12_couples_39 : decode cX12_couples 39 = .ok (.aload_n 0, 1) := by decide +kernel
theorem dX12_couples_40 : decode cX12_couples 40 = .ok (.iconst (-1), 1) := by decide +kernel
theorem dX12_couples_41 : decode cX12_couples 41 = .ok (.putfield 407, 3) := by decide +kernel
theorem dX12_couples_44 : decode cX12_couples 44 = .ok (.aload_n 0, 1) := by decide +kernel
theorem dX12_couples_45 : decode cX12_couples 45 = .ok (.iconst 0, 1) := by decide +kernel
theorem dX12_couples_46 : decode cX12_couples 46 = .ok (.putfield 410, 3) := by decide +kernel
theorem dX12_couples_49 : decode cX12_couples 49 = .ok (.aload_n 0, 1) := by decide +kernel
theorem dX12_couples_50 : decode cX12_couples 50 = .ok (.iconst 0, 1) := by decide +kernel
theorem dX12_couples_51 : decode cX12_couples 51 = .ok (.aload_n 0, 1) := by decide +kernel
theorem dX12_couples_52 : decode cX12_couples 52 = .ok (.getfield 271, 3) := by decide +kernel
theorem dX12_couples_55 : decode cX12_couples 55 = .ok (.iconst 2, 1) := by decide +kernel
theorem dX12_couples_56 : decode cX12_couples 56 = .ok (.irem, 1) := by decide +kernel
theorem dX12_couples_57 : decode cX12_couples 57 = .ok (.iconst 1, 1) := by decide +kernel
theorem dX12_couples_58 : decode cX12_couples 58 = .ok (.if_icmp .ne 7, 3) := by decide +kernel
theorem dX12_couples_61 : decode cX12_couples 61 = .ok (.iconst 1, 1) := by decide +kernel
theorem dX12_couples_62 : decode cX12_couples 62 = .ok (.goto 4, 3) := by decide +kernel
theorem dX12_couples_65 : decode cX12_couples 65 = .ok (.iconst 0, 1) := by decide +kernel
theorem dX12_couples_66 : decode cX12_couples 66 = .ok (.iconst 0, 1) := by decide +kernel
theorem dX12_couples_67 : decode cX12_couples 67 = .ok (.invokevirtual 413, 3) := by decide +kernel
theorem dX12_couples_70 : decode cX12_couples 70 = .ok (.aload_n 0, 1) := by decide +kernel
theorem dX12_couples_71 : decode cX12_couples 71 = .ok (.getfield 407, 3) := by decide +kernel
theorem dX12_couples_74 : decode cX12_couples 74 = .ok (.iconst (-1), 1) := by decide +kernel
theorem dX12_couples_75 : decode cX12_couples 75 = .ok (.if_icmp .eq 8, 3) := by decide +kernel
theorem dX12_couples_78 : decode cX12_couples 78 = .ok (.iload_n 1, 1) := by decide +kernel
theorem dX12_couples_79 : decode cX12_couples 79 = .ok (.iconst 1, 1) := by decide +kernel
theorem dX12_couples_80 : decode cX12_couples 80 = .ok (.if_icmp .ne 10, 3) := by decide +kernel
theorem dX12_couples_83 : decode cX12_couples 83 = .ok (.aload_n 0, 1) := by decide +kernel
theorem dX12_couples_84 : decode cX12_couples 84 = .ok (.getfield 407, 3) := by decide +kernel
theorem dX12_couples_87 : decode cX12_couples 87 = .ok (.goto 7, 3) := by decide +kernel
theorem dX12_couples_90 : decode cX12_couples 90 = .ok (.aload_n 0, 1) := by decide +kernel
theorem dX12_couples_91 : decode cX12_couples 91 = .ok (.getfield 410, 3) := by decide +kernel
theorem dX12_couples_94 : decode cX12_couples 94 = .ok (.ireturn, 1) := by decide +kernel
theorem dX12_burnMany_0 : decode cX12_burnMany 0 = .ok (.aload_n 0, 1) := by decide +kernel
theorem dX12_burnMany_1 : decode cX12_burnMany 1 = .ok (.iload_n 1, 1) := by decide +kernel
theorem dX12_burnMany_2 : decode cX12_burnMany 2 = .ok (.iload_n 2, 1) := by decide +kernel
theorem dX12_burnMany_3 : decode cX12_burnMany 3 = .ok (.invokevirtual 348, 3) := by decide +kernel
theorem dX12_burnMany_6 : decode cX12_burnMany 6 = .ok (.invokestatic 417, 3) := by decide +kernel
theorem dX12_burnMany_9 : decode cX12_burnMany 9 = .ok (.ireturn, 1) := by decide +kernel
theorem dX12_marry_0 : decode cX12_marry 0 = .ok (.aload_n 0, 1) := by decide +kernel
theorem dX12_marry_1 : decode cX12_marry 1 = .ok (.iload_n 1, 1) := by decide +kernel
theorem dX12_marry_2 : decode cX12_marry 2 = .ok (.invokevirtual 342, 3) := by decide +kernel
theorem dX12_marry_5 : decode cX12_marry 5 = .ok (.ifCond .eq 19, 3) := by decide +kernel
theorem dX12_marry_8 : decode cX12_marry 8 = .ok (.iload_n 2, 1) := by decide +kernel
theorem dX12_marry_9 : decode cX12_marry 9 = .ok (.invokestatic 351, 3) := by decide +kernel
theorem dX12_marry_12 : decode cX12_marry 12 = .ok (.ifCond .eq 12, 3) := by decide +kernel
theorem dX12_marry_15 : decode cX12_marry 15 = .ok (.iload_n 3, 1) := by decide +kernel
theorem dX12_marry_16 : decode cX12_marry 16 = .ok (.iconst 0, 1) := by decide +kernel
theorem dX12_marry_17 : decode cX12_marry 17 = .ok (.iconst 1, 1) := by decide +kernel
theorem dX12_marry_18 : decode cX12_marry 18 = .ok (.invokestatic 223, 3) := by decide +kernel
theorem dX12_marry_21 : decode cX12_marry 21 = .ok (.ifCond .ne 5, 3) := by decide +kernel
theorem dX12_marry_24 : decode cX12_marry 24 = .ok (.iconst (-1), 1) := by decide +kernel
theorem dX12_marry_25 : decode cX12_marry 25 = .ok (.ireturn, 1) := by decide +kernel
theorem dX12_marry_26 : decode cX12_marry 26 = .ok (.iconst (-1), 1) := by decide +kernel
theorem dX12_marry_27 : decode cX12_marry 27 = .ok (.istore 4, 2) := by decide +kernel
theorem dX12_marry_29 : decode cX12_marry 29 = .ok (.iconst 0, 1) := by decide +kernel
theorem dX12_marry_30 : decode cX12_marry 30 = .ok (.istore 5, 2) := by decide +kernel
theorem dX12_marry_32 : decode cX12_marry 32 = .ok (.iconst 0, 1) := by decide +kernel
theorem dX12_marry_33 : decode cX12_marry 33 = .ok (.istore 6, 2) := by decide +kernel
theorem dX12_marry_35 : decode cX12_marry 35 = .ok (.iload 6, 2) := by decide +kernel
theorem dX12_marry_37 : decode cX12_marry 37 = .ok (.aload_n 0, 1) := by decide +kernel
theorem dX12_marry_38 : decode cX12_marry 38 = .ok (.getfield 271, 3) := by decide +kernel
theorem dX12_marry_41 : decode cX12_marry 41 = .ok (.if_icmp .ge 98, 3) := by decide +kernel
theorem dX12_marry_44 : decode cX12_marry 44 = .ok (.iload 6, 2) := by decide +kernel
theorem dX12_marry_46 : decode cX12_marry 46 = .ok (.iconst 1, 1) := by decide +kernel
theorem dX12_marry_47 : decode cX12_marry 47 = .ok (.iadd, 1) := by decide +kernel
theorem dX12_marry_48 : decode cX12_marry 48 = .ok (.istore 7, 2) := by decide +kernel
theorem dX12_marry_50 : decode cX12_marry 50 = .ok (.iload 7, 2) := by decide +kernel
theorem dX12_marry_52 : decode cX12_marry 52 = .ok (.aload_n 0, 1) := by decide +kernel
theorem dX12_marry_53 : decode cX12_marry 53 = .ok (.getfield 271, 3) := by decide +kernel
theorem dX12_marry_56 : decode cX12_marry 56 = .ok (.if_icmp .ge 77, 3) := by decide +kernel
theorem dX12_marry_59 : decode cX12_marry 59 = .ok (.aload_n 0, 1) := by decide +kernel
theorem dX12_marry_60 : decode cX12_marry 60 = .ok (.iload 6, 2) := by decide +kernel
theorem dX12_marry_62 : decode cX12_marry 62 = .ok (.iload 7, 2) := by decide +kernel
theorem dX12_marry_64 : decode cX12_marry 64 = .ok (.invokevirtual 375, 3) := by decide +kernel
theorem dX12_marry_67 : decode cX12_marry 67 = .ok (.iconst (-1), 1) := by decide +kernel
theorem dX12_marry_68 : decode cX12_marry 68 = .ok (.if_icmp .ne 59, 3) := by decide +kernel
theorem dX12_marry_71 : decode cX12_marry 71 = .ok (.aload_n 0, 1) := by decide +kernel
theorem dX12_marry_72 : decode cX12_marry 72 = .ok (.iload 6, 2) := by decide +kernel
theorem dX12_marry_74 : decode cX12_marry 74 = .ok (.iload 7, 2) := by decide +kernel
theorem dX12_marry_76 : decode cX12_marry 76 = .ok (.iconst 0, 1) := by decide +kernel
theorem dX12_marry_77 : decode cX12_marry 77 = .ok (.invokevirtual 280, 3) := by decide +kernel
theorem dX12_marry_80 : decode cX12_marry 80 = .ok (.pop, 1) := by decide +kernel
theorem dX12_marry_81 : decode cX12_marry 81 = .ok (.aload_n 0, 1) := by decide +kernel
theorem dX12_marry_82 : decode cX12_marry 82 = .ok (.iload_n 1, 1) := by decide +kernel
theorem dX12_marry_83 : decode cX12_marry 83 = .ok (.iload_n 2, 1) := by decide +kernel
theorem dX12_marry_84 : decode cX12_marry 84 = .ok (.invokevirtual 422, 3) := by decide +kernel
theorem dX12_marry_87 : decode cX12_marry 87 = .ok (.istore 8, 2) := by decide +kernel
theorem dX12_marry_89 : decode cX12_marry 89 = .ok (.aload_n 0, 1) := by decide +kernel
theorem dX12_marry_90 : decode cX12_marry 90 = .ok (.getfield 52, 3) := by decide +kernel
theorem dX12_marry_93 : decode cX12_marry 93 = .ok (.bipush 84, 2) := by decide +kernel
theorem dX12_marry_95 : decode cX12_marry 95 = .ok (.dup2, 1) := by decide +kernel
theorem dX12_marry_96 : decode cX12_marry 96 = .ok (.iaload, 1) := by decide +kernel
theorem dX12_marry_97 : decode cX12_marry 97 = .ok (.iconst 1, 1) := by decide +kernel
theorem dX12_marry_98 : decode cX12_marry 98 = .ok (.isub, 1) := by decide +kernel
theorem dX12_marry_99 : decode cX12_marry 99 = .ok (.iastore, 1) := by decide +kernel
theorem dX12_marry_100 : decode cX12_marry 100 = .ok (.iload 4, 2) := by decide +kernel
theorem dX12_marry_102 : decode cX12_marry 102 = .ok (.iconst (-1), 1) := by decide +kernel
theorem dX12_marry_103 : decode cX12_marry 103 = .ok (.if_icmp .eq 10, 3) := by decide +kernel
theorem dX12_marry_106 : decode cX12_marry 106 = .ok (.iload 8, 2) := by decide +kernel
theorem dX12_marry_108 : decode cX12_marry 108 = .ok (.iload 5, 2) := by decide +kernel
theorem dX12_marry_110 : decode cX12_marry 110 = .ok (.if_icmp .ge 17, 3) := by decide +kernel
theorem dX12_marry_113 : decode cX12_marry 113 = .ok (.bipush 10, 2) := by decide +kernel
theorem dX12_marry_115 : decode cX12_marry 115 = .ok (.iload 6, 2) := by decide +kernel
theorem dX12_marry_117 : decode cX12_marry 117 = .ok (.imul, 1) := by decide +kernel
theorem dX12_marry_118 : decode cX12_marry 118 = .ok (.iload 7, 2) := by decide +kernel
theorem dX12_marry_120 : decode cX12_marry 120 = .ok (.iadd, 1) := by decide +kernel
theorem dX12_marry_121 : decode cX12_marry 121 = .ok (.istore 4, 2) := by decide +kernel
theorem dX12_marry_123 : decode cX12_marry 123 = .ok (.iload 8, 2) := by decide +kernel
theorem dX12_marry_125 : decode cX12_marry 125 = .ok (.istore 5, 2) := by decide +kernel
theorem dX12_marry_127 : decode cX12_marry 127 = .ok (.iinc 7 1, 3) := by decide +kernel
theorem dX12_marry_130 : decode cX12_marry 130 = .ok (.goto (-80), 3) := by decide +kernel
theorem dX12_marry_133 : decode cX12_marry 133 = .ok (.iinc 6 1, 3) := by decide +kernel
theorem dX12_marry_136 : decode cX12_marry 136 = .ok (.goto (-101), 3) := by decide +kernel
theorem dX12_marry_139 : decode cX12_marry 139 = .ok (.iload 4, 2) := by decide +kernel
theorem dX12_marry_141 : decode cX12_marry 141 = .ok (.iconst (-1), 1) := by decide +kernel
theorem dX12_marry_142 : decode cX12_marry 142 = .ok (.if_icmp .eq 7, 3) := by decide +kernel
theorem dX12_marry_145 : decode cX12_marry 145 = .ok (.iload_n 3, 1) := by decide +kernel
theorem dX12_marry_146 : decode cX12_marry 146 = .ok (.ifCond .ne 8, 3) := by decide +kernel
theorem dX12_marry_149 : decode cX12_marry 149 = .ok (.iload 4, 2) := by decide +kernel
theorem dX12_marry_151 : decode cX12_marry 151 = .ok (.goto 5, 3) := by decide +kernel
theorem dX12_marry_154 : decode cX12_marry 154 = .ok (.iload 5, 2) := by decide +kernel
theorem dX12_marry_156 : decode cX12_marry 156 = .ok (.ireturn, 1) := by decide +kernel
theorem dX12_cutSet_0 : decode cX12_cutSet 0 = .ok (.iconst 0, 1) := by decide +kernel
theorem dX12_cutSet_1 : decode cX12_cutSet 1 = .ok (.istore_n 3, 1) := by decide +kernel
theorem dX12_cutSet_2 : decode cX12_cutSet 2 = .ok (.iload_n 3, 1) := by decide +kernel
theorem dX12_cutSet_3 : decode cX12_cutSet 3 = .ok (.aload_n 0, 1) := by decide +kernel
theorem dX12_cutSet_4 : decode cX12_cutSet 4 = .ok (.getfield 52, 3) := by decide +kernel
theorem dX12_cutSet_7 : decode cX12_cutSet 7 = .ok (.bipush 84, 2) := by decide +kernel
theorem dX12_cutSet_9 : decode cX12_cutSet 9 = .ok (.iaload, 1) := by decide +kernel
theorem dX12_cutSet_10 : decode cX12_cutSet 10 = .ok (.if_icmp .ge 24, 3) := by decide +kernel
theorem dX12_cutSet_13 : decode cX12_cutSet 13 = .ok (.iload_n 1, 1) := by decide +kernel
theorem dX12_cutSet_14 : decode cX12_cutSet 14 = .ok (.iload_n 3, 1) := by decide +kernel
theorem dX12_cutSet_15 : decode cX12_cutSet 15 = .ok (.invokestatic 234, 3) := by decide +kernel
theorem dX12_cutSet_18 : decode cX12_cutSet 18 = .ok (.ifCond .eq 10, 3) := by decide +kernel
theorem dX12_cutSet_21 : decode cX12_cutSet 21 = .ok (.aload_n 0, 1) := by decide +kernel
theorem dX12_cutSet_22 : decode cX12_cutSet 22 = .ok (.iload_n 3, 1) := by decide +kernel
theorem dX12_cutSet_23 : decode cX12_cutSet 23 = .ok (.iconst 3, 1) := by decide +kernel
theorem dX12_cutSet_24 : decode cX12_cutSet 24 = .ok (.iload_n 2, 1) := by decide +kernel
theorem dX12_cutSet_25 : decode cX12_cutSet 25 = .ok (.invokevirtual 302, 3) := by decide +kernel
theorem dX12_cutSet_28 : decode cX12_cutSet 28 = .ok (.iinc 3 1, 3) := by decide +kernel
theorem dX12_cutSet_31 : decode cX12_cutSet 31 = .ok (.goto (-29), 3) := by decide +kernel
theorem dX12_cutSet_34 : decode cX12_cutSet 34 = .ok (.return_, 1) := by decide +kernel
theorem dX12_uncut_0 : decode cX12_uncut 0 = .ok (.iconst 0, 1) := by decide +kernel
theorem dX12_uncut_1 : decode cX12_uncut 1 = .ok (.istore_n 1, 1) := by decide +kernel
theorem dX12_uncut_2 : decode cX12_uncut 2 = .ok (.iconst 0, 1) := by decide +kernel
theorem dX12_uncut_3 : decode cX12_uncut 3 = .ok (.istore_n 2, 1) := by decide +kernel
theorem dX12_uncut_4 : decode cX12_uncut 4 = .ok (.iload_n 2, 1) := by decide +kernel
theorem dX12_uncut_5 : decode cX12_uncut 5 = .ok (.aload_n 0, 1) := by decide +kernel
theorem dX12_uncut_6 : decode cX12_uncut 6 = .ok (.getfield 52, 3) := by decide +kernel
theorem dX12_uncut_9 : decode cX12_uncut 9 = .ok (.bipush 84, 2) := by decide +kernel
theorem dX12_uncut_11 : decode cX12_uncut 11 = .ok (.iaload, 1) := by decide +kernel
theorem dX12_uncut_12 : decode cX12_uncut 12 = .ok (.if_icmp .ge 28, 3) := by decide +kernel
theorem dX12_uncut_15 : decode cX12_uncut 15 = .ok (.iload_n 1, 1) := by decide +kernel
theorem dX12_uncut_16 : decode cX12_uncut 16 = .ok (.aload_n 0, 1) := by decide +kernel
theorem dX12_uncut_17 : decode cX12_uncut 17 = .ok (.iload_n 2, 1) := by decide +kernel
theorem dX12_uncut_18 : decode cX12_uncut 18 = .ok (.iconst 3, 1) := by decide +kernel
theorem dX12_uncut_19 : decode cX12_uncut 19 = .ok (.invokevirtual 306, 3) := by decide +kernel
theorem dX12_uncut_22 : decode cX12_uncut 22 = .ok (.ifCond .ne 9, 3) := by decide +kernel
theorem dX12_uncut_25 : decode cX12_uncut 25 = .ok (.iconst 1, 1) := by decide +kernel
theorem dX12_uncut_26 : decode cX12_uncut 26 = .ok (.iload_n 2, 1) := by decide +kernel
theorem dX12_uncut_27 : decode cX12_uncut 27 = .ok (.ishl, 1) := by decide +kernel
theorem dX12_uncut_28 : decode cX12_uncut 28 = .ok (.goto 4, 3) := by decide +kernel
theorem dX12_uncut_31 : decode cX12_uncut 31 = .ok (.iconst 0, 1) := by decide +kernel
theorem dX12_uncut_32 : decode cX12_uncut 32 = .ok (.ior, 1) := by decide +kernel
theorem dX12_uncut_33 : decode cX12_uncut 33 = .ok (.istore_n 1, 1) := by decide +kernel
theorem dX12_uncut_34 : decode cX12_uncut 34 = .ok (.iinc 2 1, 3) := by decide +kernel
theorem dX12_uncut_37 : decode cX12_uncut 37 = .ok (.goto (-33), 3) := by decide +kernel
theorem dX12_uncut_40 : decode cX12_uncut 40 = .ok (.iload_n 1, 1) := by decide +kernel
theorem dX12_uncut_41 : decode cX12_uncut 41 = .ok (.ireturn, 1) := by decide +kernel
theorem dX12_parting_0 : decode cX12_parting 0 = .ok (.aload_n 0, 1) := by decide +kernel
theorem dX12_parting_1 : decode cX12_parting 1 = .ok (.iload_n 1, 1) := by decide +kernel
theorem dX12_parting_2 : decode cX12_parting 2 = .ok (.invokevirtual 342, 3) := by decide +kernel
theorem dX12_parting_5 : decode cX12_parting 5 = .ok (.ifCond .eq 19, 3) := by decide +kernel
theorem dX12_parting_8 : decode cX12_parting 8 = .ok (.iload_n 2, 1) := by decide +kernel
theorem dX12_parting_9 : decode cX12_parting 9 = .ok (.invokestatic 351, 3) := by decide +kernel
theorem dX12_parting_12 : decode cX12_parting 12 = .ok (.ifCond .eq 12, 3) := by decide +kernel
theorem dX12_parting_15 : decode cX12_parting 15 = .ok (.iload_n 3, 1) := by decide +kernel
theorem dX12_parting_16 : decode cX12_parting 16 = .ok (.iconst 0, 1) := by decide +kernel
theorem dX12_parting_17 : decode cX12_parting 17 = .ok (.iconst 1, 1) := by decide +kernel
theorem dX12_parting_18 : decode cX12_parting 18 = .ok (.invokestatic 223, 3) := by decide +kernel
theorem dX12_parting_21 : decode cX12_parting 21 = .ok (.ifCond .ne 5, 3) := by decide +kernel
theorem dX12_parting_24 : decode cX12_parting 24 = .ok (.iconst (-1), 1) := by decide +kernel
theorem dX12_parting_25 : decode cX12_parting 25 = .ok (.ireturn, 1) := by decide +kernel
theorem dX12_parting_26 : decode cX12_parting 26 = .ok (.iconst 0, 1) := by decide +kernel
theorem dX12_parting_27 : decode cX12_parting 27 = .ok (.istore 4, 2) := by decide +kernel
theorem dX12_parting_29 : decode cX12_parting 29 = .ok (.aload_n 0, 1) := by decide +kernel
theorem dX12_parting_30 : decode cX12_parting 30 = .ok (.iload_n 1, 1) := by decide +kernel
theorem dX12_parting_31 : decode cX12_parting 31 = .ok (.iload_n 2, 1) := by decide +kernel
theorem dX12_parting_32 : decode cX12_parting 32 = .ok (.invokevirtual 422, 3) := by decide +kernel
theorem dX12_parting_35 : decode cX12_parting 35 = .ok (.istore 5, 2) := by decide +kernel
theorem dX12_parting_37 : decode cX12_parting 37 = .ok (.aload_n 0, 1) := by decide +kernel
theorem dX12_parting_38 : decode cX12_parting 38 = .ok (.invokevirtual 425, 3) := by decide +kernel
theorem dX12_parting_41 : decode cX12_parting 41 = .ok (.istore 6, 2) := by decide +kernel
theorem dX12_parting_43 : decode cX12_parting 43 = .ok (.iconst 1, 1) := by decide +kernel
theorem dX12_parting_44 : decode cX12_parting 44 = .ok (.istore 7, 2) := by decide +kernel
theorem dX12_parting_46 : decode cX12_parting 46 = .ok (.iload 7, 2) := by decide +kernel
theorem dX12_parting_48 : decode cX12_parting 48 = .ok (.iconst 2, 1) := by decide +kernel
theorem dX12_parting_49 : decode cX12_parting 49 = .ok (.if_icmp .gt 89, 3) := by decide +kernel
theorem dX12_parting_52 : decode cX12_parting 52 = .ok (.iconst 0, 1) := by decide +kernel
theorem dX12_parting_53 : decode cX12_parting 53 = .ok (.istore 8, 2) := by decide +kernel
theorem dX12_parting_55 : decode cX12_parting 55 = .ok (.iload 8, 2) := by decide +kernel
theorem dX12_parting_57 : decode cX12_parting 57 = .ok (.iconst 1, 1) := by decide +kernel
theorem dX12_parting_58 : decode cX12_parting 58 = .ok (.aload_n 0, 1) := by decide +kernel
theorem dX12_parting_59 : decode cX12_parting 59 = .ok (.getfield 52, 3) := by decide +kernel
theorem dX12_parting_62 : decode cX12_parting 62 = .ok (.bipush 84, 2) := by decide +kernel
theorem dX12_parting_64 : decode cX12_parting 64 = .ok (.iaload, 1) := by decide +kernel
theorem dX12_parting_65 : decode cX12_parting 65 = .ok (.ishl, 1) := by decide +kernel
theorem dX12_parting_66 : decode cX12_parting 66 = .ok (.if_icmp .ge 66, 3) := by decide +kernel
theorem dX12_parting_69 : decode cX12_parting 69 = .ok (.iload 8, 2) := by decide +kernel
theorem dX12_parting_71 : decode cX12_parting 71 = .ok (.invokestatic 417, 3) := by decide +kernel
theorem dX12_parting_74 : decode cX12_parting 74 = .ok (.iload 7, 2) := by decide +kernel
theorem dX12_parting_76 : decode cX12_parting 76 = .ok (.if_icmp .ne 50, 3) := by decide +kernel
theorem dX12_parting_79 : decode cX12_parting 79 = .ok (.iload 8, 2) := by decide +kernel
theorem dX12_parting_81 : decode cX12_parting 81 = .ok (.iload 6, 2) := by decide +kernel
theorem dX12_parting_83 : decode cX12_parting 83 = .ok (.iconst (-1), 1) := by decide +kernel
theorem dX12_parting_84 : decode cX12_parting 84 = .ok (.ixor, 1) := by decide +kernel
theorem dX12_parting_85 : decode cX12_parting 85 = .ok (.iand, 1) := by decide +kernel
theorem dX12_parting_86 : decode cX12_parting 86 = .ok (.ifCond .ne 40, 3) := by decide +kernel
theorem dX12_parting_89 : decode cX12_parting 89 = .ok (.aload_n 0, 1) := by decide +kernel
theorem dX12_parting_90 : decode cX12_parting 90 = .ok (.iload 8, 2) := by decide +kernel
theorem dX12_parting_92 : decode cX12_parting 92 = .ok (.iconst 1, 1) := by decide +kernel
theorem dX12_parting_93 : decode cX12_parting 93 = .ok (.invokevirtual 428, 3) := by decide +kernel
theorem dX12_parting_96 : decode cX12_parting 96 = .ok (.aload_n 0, 1) := by decide +kernel
theorem dX12_parting_97 : decode cX12_parting 97 = .ok (.iload_n 1, 1) := by decide +kernel
theorem dX12_parting_98 : decode cX12_parting 98 = .ok (.iload_n 2, 1) := by decide +kernel
theorem dX12_parting_99 : decode cX12_parting 99 = .ok (.invokevirtual 422, 3) := by decide +kernel
theorem dX12_parting_102 : decode cX12_parting 102 = .ok (.istore 9, 2) := by decide +kernel
theorem dX12_parting_104 : decode cX12_parting 104 = .ok (.aload_n 0, 1) := by decide +kernel
theorem dX12_parting_105 : decode cX12_parting 105 = .ok (.iload 8, 2) := by decide +kernel
theorem dX12_parting_107 : decode cX12_parting 107 = .ok (.iconst 0, 1) := by decide +kernel
theorem dX12_parting_108 : decode cX12_parting 108 = .ok (.invokevirtual 428, 3) := by decide +kernel
theorem dX12_parting_111 : decode cX12_parting 111 = .ok (.iload 9, 2) := by decide +kernel
theorem dX12_parting_113 : decode cX12_parting 113 = .ok (.iload 5, 2) := by decide +kernel
theorem dX12_parting_115 : decode cX12_parting 115 = .ok (.if_icmp .ge 11, 3) := by decide +kernel
theorem dX12_parting_118 : decode cX12_parting 118 = .ok (.iload 8, 2) := by decide +kernel
theorem dX12_parting_120 : decode cX12_parting 120 = .ok (.istore 4, 2) := by decide +kernel
theorem dX12_parting_122 : decode cX12_parting 122 = .ok (.iload 9, 2) := by decide +kernel
theorem dX12_parting_124 : decode cX12_parting 124 = .ok (.istore 5, 2) := by decide +kernel
theorem dX12_parting_126 : decode cX12_parting 126 = .ok (.iinc 8 1, 3) := by decide +kernel
theorem dX12_parting_129 : decode cX12_parting 129 = .ok (.goto (-74), 3) := by decide +kernel
theorem dX12_parting_132 : decode cX12_parting 132 = .ok (.iinc 7 1, 3) := by decide +kernel
theorem dX12_parting_135 : decode cX12_parting 135 = .ok (.goto (-89), 3) := by decide +kernel
theorem dX12_parting_138 : decode cX12_parting 138 = .ok (.iload_n 3, 1) := by decide +kernel
theorem dX12_parting_139 : decode cX12_parting 139 = .ok (.ifCond .ne 8, 3) := by decide +kernel
theorem dX12_parting_142 : decode cX12_parting 142 = .ok (.iload 4, 2) := by decide +kernel
theorem dX12_parting_144 : decode cX12_parting 144 = .ok (.goto 5, 3) := by decide +kernel
theorem dX12_parting_147 : decode cX12_parting 147 = .ok (.iload 5, 2) := by decide +kernel
theorem dX12_parting_149 : decode cX12_parting 149 = .ok (.ireturn, 1) := by decide +kernel
theorem dX12_weakBy_0 : decode cX12_weakBy 0 = .ok (.iconst 0, 1) := by decide +kernel
theorem dX12_weakBy_1 : decode cX12_weakBy 1 = .ok (.istore_n 2, 1) := by decide +kernel
theorem dX12_weakBy_2 : decode cX12_weakBy 2 = .ok (.iload_n 2, 1) := by decide +kernel
theorem dX12_weakBy_3 : decode cX12_weakBy 3 = .ok (.aload_n 0, 1) := by decide +kernel
theorem dX12_weakBy_4 : decode cX12_weakBy 4 = .ok (.getfield 271, 3) := by decide +kernel
theorem dX12_weakBy_7 : decode cX12_weakBy 7 = .ok (.if_icmp .ge 20, 3) := by decide +kernel
theorem dX12_weakBy_10 : decode cX12_weakBy 10 = .ok (.aload_n 0, 1) := by decide +kernel
theorem dX12_weakBy_11 : decode cX12_weakBy 11 = .ok (.iload_n 2, 1) := by decide +kernel
theorem dX12_weakBy_12 : decode cX12_weakBy 12 = .ok (.iload_n 1, 1) := by decide +kernel
theorem dX12_weakBy_13 : decode cX12_weakBy 13 = .ok (.invokevirtual 348, 3) := by decide +kernel
theorem dX12_weakBy_16 : decode cX12_weakBy 16 = .ok (.ifCond .eq 5, 3) := by decide +kernel
theorem dX12_weakBy_19 : decode cX12_weakBy 19 = .ok (.iload_n 2, 1) := by decide +kernel
theorem dX12_weakBy_20 : decode cX12_weakBy 20 = .ok (.ireturn, 1) := by decide +kernel
theorem dX12_weakBy_21 : decode cX12_weakBy 21 = .ok (.iinc 2 1, 3) := by decide +kernel
theorem dX12_weakBy_24 : decode cX12_weakBy 24 = .ok (.goto (-22), 3) := by decide +kernel
theorem dX12_weakBy_27 : decode cX12_weakBy 27 = .ok (.iconst (-1), 1) := by decide +kernel
theorem dX12_weakBy_28 : decode cX12_weakBy 28 = .ok (.ireturn, 1) := by decide +kernel
theorem dX12_standsOf_0 : decode cX12_standsOf 0 = .ok (.iconst 0, 1) := by decide +kernel
theorem dX12_standsOf_1 : decode cX12_standsOf 1 = .ok (.istore_n 1, 1) := by decide +kernel
theorem dX12_standsOf_2 : decode cX12_standsOf 2 = .ok (.iload_n 1, 1) := by decide +kernel
theorem dX12_standsOf_3 : decode cX12_standsOf 3 = .ok (.sipush 999, 3) := by decide +kernel
theorem dX12_standsOf_6 : decode cX12_standsOf 6 = .ok (.if_icmp .ge 20, 3) := by decide +kernel
theorem dX12_standsOf_9 : decode cX12_standsOf 9 = .ok (.aload_n 0, 1) := by decide +kernel
theorem dX12_standsOf_10 : decode cX12_standsOf 10 = .ok (.iload_n 1, 1) := by decide +kernel
theorem dX12_standsOf_11 : decode cX12_standsOf 11 = .ok (.iconst 1, 1) := by decide +kernel
theorem dX12_standsOf_12 : decode cX12_standsOf 12 = .ok (.iadd, 1) := by decide +kernel
theorem dX12_standsOf_13 : decode cX12_standsOf 13 = .ok (.invokevirtual 431, 3) := by decide +kernel
theorem dX12_standsOf_16 : decode cX12_standsOf 16 = .ok (.iconst (-1), 1) := by decide +kernel
theorem dX12_standsOf_17 : decode cX12_standsOf 17 = .ok (.if_icmp .ne 9, 3) := by decide +kernel
theorem dX12_standsOf_20 : decode cX12_standsOf 20 = .ok (.iinc 1 1, 3) := by decide +kernel
theorem dX12_standsOf_23 : decode cX12_standsOf 23 = .ok (.goto (-21), 3) := by decide +kernel
theorem dX12_standsOf_26 : decode cX12_standsOf 26 = .ok (.iload_n 1, 1) := by decide +kernel
theorem dX12_standsOf_27 : decode cX12_standsOf 27 = .ok (.ireturn, 1) := by decide +kernel
theorem dX12_stands_0 : decode cX12_stands 0 = .ok (.aload_n 0, 1) := by decide +kernel
theorem dX12_stands_1 : decode cX12_stands 1 = .ok (.getfield 271, 3) := by decide +kernel
theorem dX12_stands_4 : decode cX12_stands 4 = .ok (.ifCond .eq 12, 3) := by decide +kernel
theorem dX12_stands_7 : decode cX12_stands 7 = .ok (.iload_n 1, 1) := by decide +kernel
theorem dX12_stands_8 : decode cX12_stands 8 = .ok (.iconst 0, 1) := by decide +kernel
theorem dX12_stands_9 : decode cX12_stands 9 = .ok (.iconst 1, 1) := by decide +kernel
theorem dX12_stands_10 : decode cX12_stands 10 = .ok (.invokestatic 223, 3) := by decide +kernel
theorem dX12_stands_13 : decode cX12_stands 13 = .ok (.ifCond .ne 5, 3) := by decide +kernel
theorem dX12_stands_16 : decode cX12_stands 16 = .ok (.iconst (-1), 1) := by decide +kernel
theorem dX12_stands_17 : decode cX12_stands 17 = .ok (.ireturn, 1) := by decide +kernel
theorem dX12_stands_18 : decode cX12_stands 18 = .ok (.aload_n 0, 1) := by decide +kernel
theorem dX12_stands_19 : decode cX12_stands 19 = .ok (.invokevirtual 434, 3) := by decide +kernel
theorem dX12_stands_22 : decode cX12_stands 22 = .ok (.istore_n 2, 1) := by decide +kernel
theorem dX12_stands_23 : decode cX12_stands 23 = .ok (.iload_n 1, 1) := by decide +kernel
theorem dX12_stands_24 : decode cX12_stands 24 = .ok (.ifCond .ne 7, 3) := by decide +kernel
theorem dX12_stands_27 : decode cX12_stands 27 = .ok (.iload_n 2, 1) := by decide +kernel
theorem dX12_stands_28 : decode cX12_stands 28 = .ok (.goto 21, 3) := by decide +kernel
theorem dX12_stands_31 : decode cX12_stands 31 = .ok (.iload_n 2, 1) := by decide +kernel
theorem dX12_stands_32 : decode cX12_stands 32 = .ok (.sipush 999, 3) := by decide +kernel
theorem dX12_stands_35 : decode cX12_stands 35 = .ok (.if_icmp .ne 7, 3) := by decide +kernel
theorem dX12_stands_38 : decode cX12_stands 38 = .ok (.iconst (-1), 1) := by decide +kernel
theorem dX12_stands_39 : decode cX12_stands 39 = .ok (.goto 10, 3) := by decide +kernel
theorem dX12_stands_42 : decode cX12_stands 42 = .ok (.aload_n 0, 1) := by decide +kernel
theorem dX12_stands_43 : decode cX12_stands 43 = .ok (.iload_n 2, 1) := by decide +kernel
theorem dX12_stands_44 : decode cX12_stands 44 = .ok (.iconst 1, 1) := by decide +kernel
theorem dX12_stands_45 : decode cX12_stands 45 = .ok (.iadd, 1) := by decide +kernel
theorem dX12_stands_46 : decode cX12_stands 46 = .ok (.invokevirtual 431, 3) := by decide +kernel
theorem dX12_stands_49 : decode cX12_stands 49 = .ok (.ireturn, 1) := by decide +kernel
theorem dX12_earth_0 : decode cX12_earth 0 = .ok (.iconst (-1), 1) := by decide +kernel
theorem dX12_earth_1 : decode cX12_earth 1 = .ok (.istore_n 1, 1) := by decide +kernel
theorem dX12_earth_2 : decode cX12_earth 2 = .ok (.iconst 0, 1) := by decide +kernel
theorem dX12_earth_3 : decode cX12_earth 3 = .ok (.istore_n 2, 1) := by decide +kernel
theorem dX12_earth_4 : decode cX12_earth 4 = .ok (.iconst 0, 1) := by decide +kernel
theorem dX12_earth_5 : decode cX12_earth 5 = .ok (.istore_n 3, 1) := by decide +kernel
theorem dX12_earth_6 : decode cX12_earth 6 = .ok (.iload_n 3, 1) := by decide +kernel
theorem dX12_earth_7 : decode cX12_earth 7 = .ok (.aload_n 0, 1) := by decide +kernel
theorem dX12_earth_8 : decode cX12_earth 8 = .ok (.getfield 271, 3) := by decide +kernel
theorem dX12_earth_11 : decode cX12_earth 11 = .ok (.if_icmp .ge 69, 3) := by decide +kernel
theorem dX12_earth_14 : decode cX12_earth 14 = .ok (.aload_n 0, 1) := by decide +kernel
theorem dX12_earth_15 : decode cX12_earth 15 = .ok (.getfield 52, 3) := by decide +kernel
theorem dX12_earth_18 : decode cX12_earth 18 = .ok (.iconst 0, 1) := by decide +kernel
theorem dX12_earth_19 : decode cX12_earth 19 = .ok (.iload_n 3, 1) := by decide +kernel
theorem dX12_earth_20 : decode cX12_earth 20 = .ok (.iadd, 1) := by decide +kernel
theorem dX12_earth_21 : decode cX12_earth 21 = .ok (.iaload, 1) := by decide +kernel
theorem dX12_earth_22 : decode cX12_earth 22 = .ok (.istore 4, 2) := by decide +kernel
theorem dX12_earth_24 : decode cX12_earth 24 = .ok (.aload_n 0, 1) := by decide +kernel
theorem dX12_earth_25 : decode cX12_earth 25 = .ok (.getfield 52, 3) := by decide +kernel
theorem dX12_earth_28 : decode cX12_earth 28 = .ok (.iconst 0, 1) := by decide +kernel
theorem dX12_earth_29 : decode cX12_earth 29 = .ok (.iload_n 3, 1) := by decide +kernel
theorem dX12_earth_30 : decode cX12_earth 30 = .ok (.iadd, 1) := by decide +kernel
theorem dX12_earth_31 : decode cX12_earth 31 = .ok (.bipush 99, 2) := by decide +kernel
theorem dX12_earth_33 : decode cX12_earth 33 = .ok (.iload 4, 2) := by decide +kernel
theorem dX12_earth_35 : decode cX12_earth 35 = .ok (.bipush 10, 2) := by decide +kernel
theorem dX12_earth_37 : decode cX12_earth 37 = .ok (.iadd, 1) := by decide +kernel
theorem dX12_earth_38 : decode cX12_earth 38 = .ok (.invokestatic 253, 3) := by decide +kernel
theorem dX12_earth_41 : decode cX12_earth 41 = .ok (.iastore, 1) := by decide +kernel
theorem dX12_earth_42 : decode cX12_earth 42 = .ok (.aload_n 0, 1) := by decide +kernel
theorem dX12_earth_43 : decode cX12_earth 43 = .ok (.invokevirtual 434, 3) := by decide +kernel
theorem dX12_earth_46 : decode cX12_earth 46 = .ok (.istore 5, 2) := by decide +kernel
theorem dX12_earth_48 : decode cX12_earth 48 = .ok (.aload_n 0, 1) := by decide +kernel
theorem dX12_earth_49 : decode cX12_earth 49 = .ok (.getfield 52, 3) := by decide +kernel
theorem dX12_earth_52 : decode cX12_earth 52 = .ok (.iconst 0, 1) := by decide +kernel
theorem dX12_earth_53 : decode cX12_earth 53 = .ok (.iload_n 3, 1) := by decide +kernel
theorem dX12_earth_54 : decode cX12_earth 54 = .ok (.iadd, 1) := by decide +kernel
theorem dX12_earth_55 : decode cX12_earth 55 = .ok (.iload 4, 2) := by decide +kernel
theorem dX12_earth_57 : decode cX12_earth 57 = .ok (.iastore, 1) := by decide +kernel
theorem dX12_earth_58 : decode cX12_earth 58 = .ok (.iload_n 1, 1) := by decide +kernel
theorem dX12_earth_59 : decode cX12_earth 59 = .ok (.iconst (-1), 1) := by decide +kernel
theorem dX12_earth_60 : decode cX12_earth 60 = .ok (.if_icmp .eq 9, 3) := by decide +kernel
theorem dX12_earth_63 : decode cX12_earth 63 = .ok (.iload 5, 2) := by decide +kernel
theorem dX12_earth_65 : decode cX12_earth 65 = .ok (.iload_n 2, 1) := by decide +kernel
theorem dX12_earth_66 : decode cX12_earth 66 = .ok (.if_icmp .le 8, 3) := by decide +kernel
theorem dX12_earth_69 : decode cX12_earth 69 = .ok (.iload_n 3, 1) := by decide +kernel
theorem dX12_earth_70 : decode cX12_earth 70 = .ok (.istore_n 1, 1) := by decide +kernel
theorem dX12_earth_71 : decode cX12_earth 71 = .ok (.iload 5, 2) := by decide +kernel
theorem dX12_earth_73 : decode cX12_earth 73 = .ok (.istore_n 2, 1) := by decide +kernel
theorem dX12_earth_74 : decode cX12_earth 74 = .ok (.iinc 3 1, 3) := by decide +kernel
theorem dX12_earth_77 : decode cX12_earth 77 = .ok (.goto (-71), 3) := by decide +kernel
theorem dX12_earth_80 : decode cX12_earth 80 = .ok (.iload_n 1, 1) := by decide +kernel
theorem dX12_earth_81 : decode cX12_earth 81 = .ok (.ireturn, 1) := by decide +kernel
theorem dX12_single_0 : decode cX12_single 0 = .ok (.aload_n 0, 1) := by decide +kernel
theorem dX12_single_1 : decode cX12_single 1 = .ok (.getfield 271, 3) := by decide +kernel
theorem dX12_single_4 : decode cX12_single 4 = .ok (.ifCond .ne 5, 3) := by decide +kernel
theorem dX12_single_7 : decode cX12_single 7 = .ok (.iconst (-1), 1) := by decide +kernel
theorem dX12_single_8 : decode cX12_single 8 = .ok (.ireturn, 1) := by decide +kernel
theorem dX12_single_9 : decode cX12_single 9 = .ok (.iconst 0, 1) := by decide +kernel
theorem dX12_single_10 : decode cX12_single 10 = .ok (.istore_n 1, 1) := by decide +kernel
theorem dX12_single_11 : decode cX12_single 11 = .ok (.iconst 0, 1) := by decide +kernel
theorem dX12_single_12 : decode cX12_single 12 = .ok (.istore_n 2, 1) := by decide +kernel
theorem dX12_single_13 : decode cX12_single 13 = .ok (.iload_n 2, 1) := by decide +kernel
theorem dX12_single_14 : decode cX12_single 14 = .ok (.aload_n 0, 1) := by decide +kernel
theorem dX12_single_15 : decode cX12_single 15 = .ok (.getfield 271, 3) := by decide +kernel
theorem dX12_single_18 : decode cX12_single 18 = .ok (.if_icmp .ge 28, 3) := by decide +kernel
theorem dX12_single_21 : decode cX12_single 21 = .ok (.iload_n 1, 1) := by decide +kernel
theorem dX12_single_22 : decode cX12_single 22 = .ok (.aload_n 0, 1) := by decide +kernel
theorem dX12_single_23 : decode cX12_single 23 = .ok (.iload_n 2, 1) := by decide +kernel
theorem dX12_single_24 : decode cX12_single 24 = .ok (.iconst (-1), 1) := by decide +kernel
theorem dX12_single_25 : decode cX12_single 25 = .ok (.invokevirtual 330, 3) := by decide +kernel
theorem dX12_single_28 : decode cX12_single 28 = .ok (.ifCond .ne 9, 3) := by decide +kernel
theorem dX12_single_31 : decode cX12_single 31 = .ok (.iconst 1, 1) := by decide +kernel
theorem dX12_single_32 : decode cX12_single 32 = .ok (.iload_n 2, 1) := by decide +kernel
theorem dX12_single_33 : decode cX12_single 33 = .ok (.ishl, 1) := by decide +kernel
theorem dX12_single_34 : decode cX12_single 34 = .ok (.goto 4, 3) := by decide +kernel
theorem dX12_single_37 : decode cX12_single 37 = .ok (.iconst 0, 1) := by decide +kernel
theorem dX12_single_38 : decode cX12_single 38 = .ok (.ior, 1) := by decide +kernel
theorem dX12_single_39 : decode cX12_single 39 = .ok (.istore_n 1, 1) := by decide +kernel
theorem dX12_single_40 : decode cX12_single 40 = .ok (.iinc 2 1, 3) := by decide +kernel
theorem dX12_single_43 : decode cX12_single 43 = .ok (.goto (-30), 3) := by decide +kernel
theorem dX12_single_46 : decode cX12_single 46 = .ok (.iload_n 1, 1) := by decide +kernel
theorem dX12_single_47 : decode cX12_single 47 = .ok (.ireturn, 1) := by decide +kernel
theorem dX12_townBut_0 : decode cX12_townBut 0 = .ok (.iconst 1, 1) := by decide +kernel
theorem dX12_townBut_1 : decode cX12_townBut 1 = .ok (.iload_n 1, 1) := by decide +kernel
theorem dX12_townBut_2 : decode cX12_townBut 2 = .ok (.ishl, 1) := by decide +kernel
theorem dX12_townBut_3 : decode cX12_townBut 3 = .ok (.istore_n 3, 1) := by decide +kernel
theorem dX12_townBut_4 : decode cX12_townBut 4 = .ok (.iconst 0, 1) := by decide +kernel
theorem dX12_townBut_5 : decode cX12_townBut 5 = .ok (.istore 4, 2) := by decide +kernel
theorem dX12_townBut_7 : decode cX12_townBut 7 = .ok (.iload 4, 2) := by decide +kernel
theorem dX12_townBut_9 : decode cX12_townBut 9 = .ok (.bipush 8, 2) := by decide +kernel
theorem dX12_townBut_11 : decode cX12_townBut 11 = .ok (.if_icmp .ge 95, 3) := by decide +kernel
theorem dX12_townBut_14 : decode cX12_townBut 14 = .ok (.iconst 0, 1) := by decide +kernel
theorem dX12_townBut_15 : decode cX12_townBut 15 = .ok (.istore 5, 2) := by decide +kernel
theorem dX12_townBut_17 : decode cX12_townBut 17 = .ok (.iload 5, 2) := by decide +kernel
theorem dX12_townBut_19 : decode cX12_townBut 19 = .ok (.aload_n 0, 1) := by decide +kernel
theorem dX12_townBut_20 : decode cX12_townBut 20 = .ok (.getfield 52, 3) := by decide +kernel
theorem dX12_townBut_23 : decode cX12_townBut 23 = .ok (.bipush 84, 2) := by decide +kernel
theorem dX12_townBut_25 : decode cX12_townBut 25 = .ok (.iaload, 1) := by decide +kernel
theorem dX12_townBut_26 : decode cX12_townBut 26 = .ok (.if_icmp .ge 74, 3) := by decide +kernel
theorem dX12_townBut_29 : decode cX12_townBut 29 = .ok (.iload 5, 2) := by decide +kernel
theorem dX12_townBut_31 : decode cX12_townBut 31 = .ok (.iload_n 2, 1) := by decide +kernel
theorem dX12_townBut_32 : decode cX12_townBut 32 = .ok (.if_icmp .eq 62, 3) := by decide +kernel
theorem dX12_townBut_35 : decode cX12_townBut 35 = .ok (.aload_n 0, 1) := by decide +kernel
theorem dX12_townBut_36 : decode cX12_townBut 36 = .ok (.iload 5, 2) := by decide +kernel
theorem dX12_townBut_38 : decode cX12_townBut 38 = .ok (.invokevirtual 312, 3) := by decide +kernel
theorem dX12_townBut_41 : decode cX12_townBut 41 = .ok (.ifCond .eq 53, 3) := by decide +kernel
theorem dX12_townBut_44 : decode cX12_townBut 44 = .ok (.iload_n 3, 1) := by decide +kernel
theorem dX12_townBut_45 : decode cX12_townBut 45 = .ok (.aload_n 0, 1) := by decide +kernel
theorem dX12_townBut_46 : decode cX12_townBut 46 = .ok (.iload 5, 2) := by decide +kernel
theorem dX12_townBut_48 : decode cX12_townBut 48 = .ok (.iconst 0, 1) := by decide +kernel
theorem dX12_townBut_49 : decode cX12_townBut 49 = .ok (.invokevirtual 306, 3) := by decide +kernel
theorem dX12_townBut_52 : decode cX12_townBut 52 = .ok (.invokestatic 234, 3) := by decide +kernel
theorem dX12_townBut_55 : decode cX12_townBut 55 = .ok (.ifCond .ne 17, 3) := by decide +kernel
theorem dX12_townBut_58 : decode cX12_townBut 58 = .ok (.iload_n 3, 1) := by decide +kernel
theorem dX12_townBut_59 : decode cX12_townBut 59 = .ok (.aload_n 0, 1) := by decide +kernel
theorem dX12_townBut_60 : decode cX12_townBut 60 = .ok (.iload 5, 2) := by decide +kernel
theorem dX12_townBut_62 : decode cX12_townBut 62 = .ok (.iconst 1, 1) := by decide +kernel
theorem dX12_townBut_63 : decode cX12_townBut 63 = .ok (.invokevirtual 306, 3) := by decide +kernel
theorem dX12_townBut_66 : decode cX12_townBut 66 = .ok (.invokestatic 234, 3) := by decide +kernel
theorem dX12_townBut_69 : decode cX12_townBut 69 = .ok (.ifCond .eq 25, 3) := by decide +kernel
theorem dX12_townBut_72 : decode cX12_townBut 72 = .ok (.iload_n 3, 1) := by decide +kernel
theorem dX12_townBut_73 : decode cX12_townBut 73 = .ok (.iconst 1, 1) := by decide +kernel
theorem dX12_townBut_74 : decode cX12_townBut 74 = .ok (.aload_n 0, 1) := by decide +kernel
theorem dX12_townBut_75 : decode cX12_townBut 75 = .ok (.iload 5, 2) := by decide +kernel
theorem dX12_townBut_77 : decode cX12_townBut 77 = .ok (.iconst 0, 1) := by decide +kernel
theorem dX12_townBut_78 : decode cX12_townBut 78 = .ok (.invokevirtual 306, 3) := by decide +kernel
theorem dX12_townBut_81 : decode cX12_townBut 81 = .ok (.ishl, 1) := by decide +kernel
theorem dX12_townBut_82 : decode cX12_townBut 82 = .ok (.iconst 1, 1) := by decide +kernel
theorem dX12_townBut_83 : decode cX12_townBut 83 = .ok (.aload_n 0, 1) := by decide +kernel
theorem dX12_townBut_84 : decode cX12_townBut 84 = .ok (.iload 5, 2) := by decide +kernel
theorem dX12_townBut_86 : decode cX12_townBut 86 = .ok (.iconst 1, 1) := by decide +kernel
theorem dX12_townBut_87 : decode cX12_townBut 87 = .ok (.invokevirtual 306, 3) := by decide +kernel
theorem dX12_townBut_90 : decode cX12_townBut 90 = .ok (.ishl, 1) := by decide +kernel
theorem dX12_townBut_91 : decode cX12_townBut 91 = .ok (.ior, 1) := by decide +kernel
theorem dX12_townBut_92 : decode cX12_townBut 92 = .ok (.ior, 1) := by decide +kernel
theorem dX12_townBut_93 : decode cX12_townBut 93 = .ok (.istore_n 3, 1) := by decide +kernel
theorem dX12_townBut_94 : decode cX12_townBut 94 = .ok (.iinc 5 1, 3) := by decide +kernel
theorem dX12_townBut_97 : decode cX12_townBut 97 = .ok (.goto (-80), 3) := by decide +kernel
theorem dX12_townBut_100 : decode cX12_townBut 100 = .ok (.iinc 4 1, 3) := by decide +kernel
theorem dX12_townBut_103 : decode cX12_townBut 103 = .ok (.goto (-96), 3) := by decide +kernel
theorem dX12_townBut_106 : decode cX12_townBut 106 = .ok (.iload_n 3, 1) := by decide +kernel
theorem dX12_townBut_107 : decode cX12_townBut 107 = .ok (.ireturn, 1) := by decide +kernel
theorem dX12_town_0 : decode cX12_town 0 = .ok (.aload_n 0, 1) := by decide +kernel
theorem dX12_town_1 : decode cX12_town 1 = .ok (.iload_n 1, 1) := by decide +kernel
theorem dX12_town_2 : decode cX12_town 2 = .ok (.invokevirtual 342, 3) := by decide +kernel
theorem dX12_town_5 : decode cX12_town 5 = .ok (.ifCond .eq 12, 3) := by decide +kernel
theorem dX12_town_8 : decode cX12_town 8 = .ok (.aload_n 0, 1) := by decide +kernel
theorem dX12_town_9 : decode cX12_town 9 = .ok (.iload_n 1, 1) := by decide +kernel
theorem dX12_town_10 : decode cX12_town 10 = .ok (.iconst (-1), 1) := by decide +kernel
theorem dX12_town_11 : decode cX12_town 11 = .ok (.invokevirtual 437, 3) := by decide +kernel
theorem dX12_town_14 : decode cX12_town 14 = .ok (.goto 4, 3) := by decide +kernel
theorem dX12_town_17 : decode cX12_town 17 = .ok (.iconst (-1), 1) := by decide +kernel
theorem dX12_town_18 : decode cX12_town 18 = .ok (.ireturn, 1) := by decide +kernel
theorem dX12_net_0 : decode cX12_net 0 = .ok (.aload_n 0, 1) := by decide +kernel
theorem dX12_net_1 : decode cX12_net 1 = .ok (.getfield 271, 3) := by decide +kernel
theorem dX12_net_4 : decode cX12_net 4 = .ok (.ifCond .eq 12, 3) := by decide +kernel
theorem dX12_net_7 : decode cX12_net 7 = .ok (.iload_n 1, 1) := by decide +kernel
theorem dX12_net_8 : decode cX12_net 8 = .ok (.iconst 0, 1) := by decide +kernel
theorem dX12_net_9 : decode cX12_net 9 = .ok (.iconst 1, 1) := by decide +kernel
theorem dX12_net_10 : decode cX12_net 10 = .ok (.invokestatic 223, 3) := by decide +kernel
theorem dX12_net_13 : decode cX12_net 13 = .ok (.ifCond .ne 5, 3) := by decide +kernel
theorem dX12_net_16 : decode cX12_net 16 = .ok (.iconst (-1), 1) := by decide +kernel
theorem dX12_net_17 : decode cX12_net 17 = .ok (.ireturn, 1) := by decide +kernel
theorem dX12_net_18 : decode cX12_net 18 = .ok (.iconst 0, 1) := by decide +kernel
theorem dX12_net_19 : decode cX12_net 19 = .ok (.istore_n 2, 1) := by decide +kernel
theorem dX12_net_20 : decode cX12_net 20 = .ok (.iconst 0, 1) := by decide +kernel
theorem dX12_net_21 : decode cX12_net 21 = .ok (.istore_n 3, 1) := by decide +kernel
theorem dX12_net_22 : decode cX12_net 22 = .ok (.iconst 0, 1) := by decide +kernel
theorem dX12_net_23 : decode cX12_net 23 = .ok (.istore 4, 2) := by decide +kernel
theorem dX12_net_25 : decode cX12_net 25 = .ok (.iload 4, 2) := by decide +kernel
theorem dX12_net_27 : decode cX12_net 27 = .ok (.aload_n 0, 1) := by decide +kernel
theorem dX12_net_28 : decode cX12_net 28 = .ok (.getfield 271, 3) := by decide +kernel
theorem dX12_net_31 : decode cX12_net 31 = .ok (.if_icmp .ge 32, 3) := by decide +kernel
theorem dX12_net_34 : decode cX12_net 34 = .ok (.iload_n 2, 1) := by decide +kernel
theorem dX12_net_35 : decode cX12_net 35 = .ok (.aload_n 0, 1) := by decide +kernel
theorem dX12_net_36 : decode cX12_net 36 = .ok (.iload 4, 2) := by decide +kernel
theorem dX12_net_38 : decode cX12_net 38 = .ok (.iconst (-1), 1) := by decide +kernel
theorem dX12_net_39 : decode cX12_net 39 = .ok (.invokevirtual 437, 3) := by decide +kernel
theorem dX12_net_42 : decode cX12_net 42 = .ok (.invokestatic 440, 3) := by decide +kernel
theorem dX12_net_45 : decode cX12_net 45 = .ok (.iload 4, 2) := by decide +kernel
theorem dX12_net_47 : decode cX12_net 47 = .ok (.if_icmp .ne 7, 3) := by decide +kernel
theorem dX12_net_50 : decode cX12_net 50 = .ok (.iconst 1, 1) := by decide +kernel
theorem dX12_net_51 : decode cX12_net 51 = .ok (.goto 4, 3) := by decide +kernel
theorem dX12_net_54 : decode cX12_net 54 = .ok (.iconst 0, 1) := by decide +kernel
theorem dX12_net_55 : decode cX12_net 55 = .ok (.iadd, 1) := by decide +kernel
theorem dX12_net_56 : decode cX12_net 56 = .ok (.istore_n 2, 1) := by decide +kernel
theorem dX12_net_57 : decode cX12_net 57 = .ok (.iinc 4 1, 3) := by decide +kernel
theorem dX12_net_60 : decode cX12_net 60 = .ok (.goto (-35), 3) := by decide +kernel
theorem dX12_net_63 : decode cX12_net 63 = .ok (.iconst 0, 1) := by decide +kernel
theorem dX12_net_64 : decode cX12_net 64 = .ok (.istore 4, 2) := by decide +kernel
theorem dX12_net_66 : decode cX12_net 66 = .ok (.iload 4, 2) := by decide +kernel
theorem dX12_net_68 : decode cX12_net 68 = .ok (.aload_n 0, 1) := by decide +kernel
theorem dX12_net_69 : decode cX12_net 69 = .ok (.getfield 52, 3) := by decide +kernel
theorem dX12_net_72 : decode cX12_net 72 = .ok (.bipush 84, 2) := by decide +kernel
theorem dX12_net_74 : decode cX12_net 74 = .ok (.iaload, 1) := by decide +kernel
theorem dX12_net_75 : decode cX12_net 75 = .ok (.if_icmp .ge 55, 3) := by decide +kernel
theorem dX12_net_78 : decode cX12_net 78 = .ok (.iload_n 3, 1) := by decide +kernel
theorem dX12_net_79 : decode cX12_net 79 = .ok (.aload_n 0, 1) := by decide +kernel
theorem dX12_net_80 : decode cX12_net 80 = .ok (.iload 4, 2) := by decide +kernel
theorem dX12_net_82 : decode cX12_net 82 = .ok (.invokevirtual 312, 3) := by decide +kernel
theorem dX12_net_85 : decode cX12_net 85 = .ok (.ifCond .eq 36, 3) := by decide +kernel
theorem dX12_net_88 : decode cX12_net 88 = .ok (.aload_n 0, 1) := by decide +kernel
theorem dX12_net_89 : decode cX12_net 89 = .ok (.aload_n 0, 1) := by decide +kernel
theorem dX12_net_90 : decode cX12_net 90 = .ok (.iload 4, 2) := by decide +kernel
theorem dX12_net_92 : decode cX12_net 92 = .ok (.iconst 0, 1) := by decide +kernel
theorem dX12_net_93 : decode cX12_net 93 = .ok (.invokevirtual 306, 3) := by decide +kernel
theorem dX12_net_96 : decode cX12_net 96 = .ok (.iload 4, 2) := by decide +kernel
theorem dX12_net_98 : decode cX12_net 98 = .ok (.invokevirtual 437, 3) := by decide +kernel
theorem dX12_net_101 : decode cX12_net 101 = .ok (.aload_n 0, 1) := by decide +kernel
theorem dX12_net_102 : decode cX12_net 102 = .ok (.iload 4, 2) := by decide +kernel
theorem dX12_net_104 : decode cX12_net 104 = .ok (.iconst 1, 1) := by decide +kernel
theorem dX12_net_105 : decode cX12_net 105 = .ok (.invokevirtual 306, 3) := by decide +kernel
theorem dX12_net_108 : decode cX12_net 108 = .ok (.invokestatic 234, 3) := by decide +kernel
theorem dX12_net_111 : decode cX12_net 111 = .ok (.ifCond .ne 10, 3) := by decide +kernel
theorem dX12_net_114 : decode cX12_net 114 = .ok (.iconst 1, 1) := by decide +kernel
theorem dX12_net_115 : decode cX12_net 115 = .ok (.iload 4, 2) := by decide +kernel
theorem dX12_net_117 : decode cX12_net 117 = .ok (.ishl, 1) := by decide +kernel
theorem dX12_net_118 : decode cX12_net 118 = .ok (.goto 4, 3) := by decide +kernel
theorem dX12_net_121 : decode cX12_net 121 = .ok (.iconst 0, 1) := by decide +kernel
theorem dX12_net_122 : decode cX12_net 122 = .ok (.ior, 1) := by decide +kernel
theorem dX12_net_123 : decode cX12_net 123 = .ok (.istore_n 3, 1) := by decide +kernel
theorem dX12_net_124 : decode cX12_net 124 = .ok (.iinc 4 1, 3) := by decide +kernel
theorem dX12_net_127 : decode cX12_net 127 = .ok (.goto (-61), 3) := by decide +kernel
theorem dX12_net_130 : decode cX12_net 130 = .ok (.iload_n 1, 1) := by decide +kernel
theorem dX12_net_131 : decode cX12_net 131 = .ok (.ifCond .ne 20, 3) := by decide +kernel
theorem dX12_net_134 : decode cX12_net 134 = .ok (.aload_n 0, 1) := by decide +kernel
theorem dX12_net_135 : decode cX12_net 135 = .ok (.invokevirtual 443, 3) := by decide +kernel
theorem dX12_net_138 : decode cX12_net 138 = .ok (.invokestatic 417, 3) := by decide +kernel
theorem dX12_net_141 : decode cX12_net 141 = .ok (.aload_n 0, 1) := by decide +kernel
theorem dX12_net_142 : decode cX12_net 142 = .ok (.getfield 271, 3) := by decide +kernel
theorem dX12_net_145 : decode cX12_net 145 = .ok (.isub, 1) := by decide +kernel
theorem dX12_net_146 : decode cX12_net 146 = .ok (.iload_n 2, 1) := by decide +kernel
theorem dX12_net_147 : decode cX12_net 147 = .ok (.iadd, 1) := by decide +kernel
theorem dX12_net_148 : decode cX12_net 148 = .ok (.goto 4, 3) := by decide +kernel
theorem dX12_net_151 : decode cX12_net 151 = .ok (.iload_n 3, 1) := by decide +kernel
theorem dX12_net_152 : decode cX12_net 152 = .ok (.ireturn, 1) := by decide +kernel
theorem dX12_mostKept_0 : decode cX12_mostKept 0 = .ok (.aload_n 0, 1) := by decide +kernel
theorem dX12_mostKept_1 : decode cX12_mostKept 1 = .ok (.iload_n 2, 1) := by decide +kernel
theorem dX12_mostKept_2 : decode cX12_mostKept 2 = .ok (.iload 4, 2) := by decide +kernel
theorem dX12_mostKept_4 : decode cX12_mostKept 4 = .ok (.iload_n 1, 1) := by decide +kernel
theorem dX12_mostKept_5 : decode cX12_mostKept 5 = .ok (.invokevirtual 404, 3) := by decide +kernel
theorem dX12_mostKept_8 : decode cX12_mostKept 8 = .ok (.aload_n 0, 1) := by decide +kernel
theorem dX12_mostKept_9 : decode cX12_mostKept 9 = .ok (.iload_n 3, 1) := by decide +kernel
theorem dX12_mostKept_10 : decode cX12_mostKept 10 = .ok (.iload 4, 2) := by decide +kernel
theorem dX12_mostKept_12 : decode cX12_mostKept 12 = .ok (.iload_n 1, 1) := by decide +kernel
theorem dX12_mostKept_13 : decode cX12_mostKept 13 = .ok (.invokevirtual 404, 3) := by decide +kernel
theorem dX12_mostKept_16 : decode cX12_mostKept 16 = .ok (.invokestatic 255, 3) := by decide +kernel
theorem dX12_mostKept_19 : decode cX12_mostKept 19 = .ok (.ireturn, 1) := by decide +kernel
theorem dX12_gameOf_0 : decode cX12_gameOf 0 = .ok (.iload 4, 2) := by decide +kernel
theorem dX12_gameOf_2 : decode cX12_gameOf 2 = .ok (.ifCond .eq 11, 3) := by decide +kernel
theorem dX12_gameOf_5 : decode cX12_gameOf 5 = .ok (.aload_n 0, 1) := by decide +kernel
theorem dX12_gameOf_6 : decode cX12_gameOf 6 = .ok (.iload_n 1, 1) := by decide +kernel
theorem dX12_gameOf_7 : decode cX12_gameOf 7 = .ok (.iload_n 2, 1) := by decide +kernel
theorem dX12_gameOf_8 : decode cX12_gameOf 8 = .ok (.iconst 0, 1) := by decide +kernel
theorem dX12_gameOf_9 : decode cX12_gameOf 9 = .ok (.invokevirtual 280, 3) := by decide +kernel
theorem dX12_gameOf_12 : decode cX12_gameOf 12 = .ok (.pop, 1) := by decide +kernel
theorem dX12_gameOf_13 : decode cX12_gameOf 13 = .ok (.aload_n 0, 1) := by decide +kernel
theorem dX12_gameOf_14 : decode cX12_gameOf 14 = .ok (.getfield 52, 3) := by decide +kernel
theorem dX12_gameOf_17 : decode cX12_gameOf 17 = .ok (.iconst 0, 1) := by decide +kernel
theorem dX12_gameOf_18 : decode cX12_gameOf 18 = .ok (.iload_n 1, 1) := by decide +kernel
theorem dX12_gameOf_19 : decode cX12_gameOf 19 = .ok (.iadd, 1) := by decide +kernel
theorem dX12_gameOf_20 : decode cX12_gameOf 20 = .ok (.iaload, 1) := by decide +kernel
theorem dX12_gameOf_21 : decode cX12_gameOf 21 = .ok (.aload_n 0, 1) := by decide +kernel
theorem dX12_gameOf_22 : decode cX12_gameOf 22 = .ok (.iload_n 1, 1) := by decide +kernel
theorem dX12_gameOf_23 : decode cX12_gameOf 23 = .ok (.iload_n 1, 1) := by decide +kernel
theorem dX12_gameOf_24 : decode cX12_gameOf 24 = .ok (.iload_n 2, 1) := by decide +kernel
theorem dX12_gameOf_25 : decode cX12_gameOf 25 = .ok (.iload_n 3, 1) := by decide +kernel
theorem dX12_gameOf_26 : decode cX12_gameOf 26 = .ok (.invokevirtual 446, 3) := by decide +kernel
theorem dX12_gameOf_29 : decode cX12_gameOf 29 = .ok (.isub, 1) := by decide +kernel
theorem dX12_gameOf_30 : decode cX12_gameOf 30 = .ok (.istore 5, 2) := by decide +kernel
theorem dX12_gameOf_32 : decode cX12_gameOf 32 = .ok (.aload_n 0, 1) := by decide +kernel
theorem dX12_gameOf_33 : decode cX12_gameOf 33 = .ok (.getfield 52, 3) := by decide +kernel
theorem dX12_gameOf_36 : decode cX12_gameOf 36 = .ok (.bipush 84, 2) := by decide +kernel
theorem dX12_gameOf_38 : decode cX12_gameOf 38 = .ok (.dup2, 1) := by decide +kernel
theorem dX12_gameOf_39 : decode cX12_gameOf 39 = .ok (.iaload, 1) := by decide +kernel
theorem dX12_gameOf_40 : decode cX12_gameOf 40 = .ok (.iload 4, 2) := by decide +kernel
theorem dX12_gameOf_42 : decode cX12_gameOf 42 = .ok (.ifCond .eq 7, 3) := by decide +kernel
theorem dX12_gameOf_45 : decode cX12_gameOf 45 = .ok (.iconst 1, 1) := by decide +kernel
theorem dX12_gameOf_46 : decode cX12_gameOf 46 = .ok (.goto 4, 3) := by decide +kernel
theorem dX12_gameOf_49 : decode cX12_gameOf 49 = .ok (.iconst 0, 1) := by decide +kernel
theorem dX12_gameOf_50 : decode cX12_gameOf 50 = .ok (.isub, 1) := by decide +kernel
theorem dX12_gameOf_51 : decode cX12_gameOf 51 = .ok (.iastore, 1) := by decide +kernel
theorem dX12_gameOf_52 : decode cX12_gameOf 52 = .ok (.iload 5, 2) := by decide +kernel
theorem dX12_gameOf_54 : decode cX12_gameOf 54 = .ok (.ireturn, 1) := by decide +kernel
theorem dX12_areTwo_0 : decode cX12_areTwo 0 = .ok (.aload_n 0, 1) := by decide +kernel
theorem dX12_areTwo_1 : decode cX12_areTwo 1 = .ok (.iload_n 1, 1) := by decide +kernel
theorem dX12_areTwo_2 : decode cX12_areTwo 2 = .ok (.invokevirtual 342, 3) := by decide +kernel
theorem dX12_areTwo_5 : decode cX12_areTwo 5 = .ok (.ifCond .eq 38, 3) := by decide +kernel
theorem dX12_areTwo_8 : decode cX12_areTwo 8 = .ok (.aload_n 0, 1) := by decide +kernel
theorem dX12_areTwo_9 : decode cX12_areTwo 9 = .ok (.iload_n 2, 1) := by decide +kernel
theorem dX12_areTwo_10 : decode cX12_areTwo 10 = .ok (.invokevirtual 342, 3) := by decide +kernel
theorem dX12_areTwo_13 : decode cX12_areTwo 13 = .ok (.ifCond .eq 30, 3) := by decide +kernel
theorem dX12_areTwo_16 : decode cX12_areTwo 16 = .ok (.iload_n 1, 1) := by decide +kernel
theorem dX12_areTwo_17 : decode cX12_areTwo 17 = .ok (.iload_n 2, 1) := by decide +kernel
theorem dX12_areTwo_18 : decode cX12_areTwo 18 = .ok (.if_icmp .eq 25, 3) := by decide +kernel
theorem dX12_areTwo_21 : decode cX12_areTwo 21 = .ok (.aload_n 0, 1) := by decide +kernel
theorem dX12_areTwo_22 : decode cX12_areTwo 22 = .ok (.iload_n 1, 1) := by decide +kernel
theorem dX12_areTwo_23 : decode cX12_areTwo 23 = .ok (.iload_n 2, 1) := by decide +kernel
theorem dX12_areTwo_24 : decode cX12_areTwo 24 = .ok (.invokevirtual 369, 3) := by decide +kernel
theorem dX12_areTwo_27 : decode cX12_areTwo 27 = .ok (.ifCond .ne 16, 3) := by decide +kernel
theorem dX12_areTwo_30 : decode cX12_areTwo 30 = .ok (.aload_n 0, 1) := by decide +kernel
theorem dX12_areTwo_31 : decode cX12_areTwo 31 = .ok (.iload_n 1, 1) := by decide +kernel
theorem dX12_areTwo_32 : decode cX12_areTwo 32 = .ok (.iload_n 2, 1) := by decide +kernel
theorem dX12_areTwo_33 : decode cX12_areTwo 33 = .ok (.invokevirtual 366, 3) := by decide +kernel
theorem dX12_areTwo_36 : decode cX12_areTwo 36 = .ok (.ifCond .ne 7, 3) := by decide +kernel
theorem dX12_areTwo_39 : decode cX12_areTwo 39 = .ok (.iconst 1, 1) := by decide +kernel
theorem dX12_areTwo_40 : decode cX12_areTwo 40 = .ok (.goto 4, 3) := by decide +kernel
theorem dX12_areTwo_43 : decode cX12_areTwo 43 = .ok (.iconst 0, 1) := by decide +kernel
theorem dX12_areTwo_44 : decode cX12_areTwo 44 = .ok (.ireturn, 1) := by decide +kernel
theorem dX12_game_0 : decode cX12_game 0 = .ok (.aload_n 0, 1) := by decide +kernel
theorem dX12_game_1 : decode cX12_game 1 = .ok (.iload_n 1, 1) := by decide +kernel
theorem dX12_game_2 : decode cX12_game 2 = .ok (.iload_n 2, 1) := by decide +kernel
theorem dX12_game_3 : decode cX12_game 3 = .ok (.invokevirtual 450, 3) := by decide +kernel
theorem dX12_game_6 : decode cX12_game 6 = .ok (.ifCond .eq 40, 3) := by decide +kernel
theorem dX12_game_9 : decode cX12_game 9 = .ok (.iload_n 3, 1) := by decide +kernel
theorem dX12_game_10 : decode cX12_game 10 = .ok (.invokestatic 351, 3) := by decide +kernel
theorem dX12_game_13 : decode cX12_game 13 = .ok (.ifCond .eq 33, 3) := by decide +kernel
theorem dX12_game_16 : decode cX12_game 16 = .ok (.iload 4, 2) := by decide +kernel
theorem dX12_game_18 : decode cX12_game 18 = .ok (.iconst 0, 1) := by decide +kernel
theorem dX12_game_19 : decode cX12_game 19 = .ok (.iconst 1, 1) := by decide +kernel
theorem dX12_game_20 : decode cX12_game 20 = .ok (.invokestatic 223, 3) := by decide +kernel
theorem dX12_game_23 : decode cX12_game 23 = .ok (.ifCond .eq 23, 3) := by decide +kernel
theorem dX12_game_26 : decode cX12_game 26 = .ok (.iload 5, 2) := by decide +kernel
theorem dX12_game_28 : decode cX12_game 28 = .ok (.iconst 0, 1) := by decide +kernel
theorem dX12_game_29 : decode cX12_game 29 = .ok (.iconst 1, 1) := by decide +kernel
theorem dX12_game_30 : decode cX12_game 30 = .ok (.invokestatic 223, 3) := by decide +kernel
theorem dX12_game_33 : decode cX12_game 33 = .ok (.ifCond .eq 13, 3) := by decide +kernel
theorem dX12_game_36 : decode cX12_game 36 = .ok (.iload 6, 2) := by decide +kernel
theorem dX12_game_38 : decode cX12_game 38 = .ok (.iconst 0, 1) := by decide +kernel
theorem dX12_game_39 : decode cX12_game 39 = .ok (.iconst 1, 1) := by decide +kernel
theorem dX12_game_40 : decode cX12_game 40 = .ok (.invokestatic 223, 3) := by decide +kernel
theorem dX12_game_43 : decode cX12_game 43 = .ok (.ifCond .ne 7, 3) := by decide +kernel
theorem dX12_game_46 : decode cX12_game 46 = .ok (.ldc_w 453, 3) := by decide +kernel
theorem dX12_game_49 : decode cX12_game 49 = .ok (.ireturn, 1) := by decide +kernel
theorem dX12_game_50 : decode cX12_game 50 = .ok (.iload 4, 2) := by decide +kernel
theorem dX12_game_52 : decode cX12_game 52 = .ok (.iconst 1, 1) := by decide +kernel
theorem dX12_game_53 : decode cX12_game 53 = .ok (.if_icmp .ne 13, 3) := by decide +kernel
theorem dX12_game_56 : decode cX12_game 56 = .ok (.iload 5, 2) := by decide +kernel
theorem dX12_game_58 : decode cX12_game 58 = .ok (.iconst 1, 1) := by decide +kernel
theorem dX12_game_59 : decode cX12_game 59 = .ok (.if_icmp .ne 7, 3) := by decide +kernel
theorem dX12_game_62 : decode cX12_game 62 = .ok (.iconst 1, 1) := by decide +kernel
theorem dX12_game_63 : decode cX12_game 63 = .ok (.goto 4, 3) := by decide +kernel
theorem dX12_game_66 : decode cX12_game 66 = .ok (.iconst 0, 1) := by decide +kernel
theorem dX12_game_67 : decode cX12_game 67 = .ok (.istore 7, 2) := by decide +kernel
theorem dX12_game_69 : decode cX12_game 69 = .ok (.iload 6, 2) := by decide +kernel
theorem dX12_game_71 : decode cX12_game 71 = .ok (.ifCond .ne 15, 3) := by decide +kernel
theorem dX12_game_74 : decode cX12_game 74 = .ok (.aload_n 0, 1) := by decide +kernel
theorem dX12_game_75 : decode cX12_game 75 = .ok (.iload_n 1, 1) := by decide +kernel
theorem dX12_game_76 : decode cX12_game 76 = .ok (.iload_n 2, 1) := by decide +kernel
theorem dX12_game_77 : decode cX12_game 77 = .ok (.iload_n 3, 1) := by decide +kernel
theorem dX12_game_78 : decode cX12_game 78 = .ok (.iload 7, 2) := by decide +kernel
theorem dX12_game_80 : decode cX12_game 80 = .ok (.invokevirtual 454, 3) := by decide +kernel
theorem dX12_game_83 : decode cX12_game 83 = .ok (.goto 12, 3) := by decide +kernel
theorem dX12_game_86 : decode cX12_game 86 = .ok (.aload_n 0, 1) := by decide +kernel
theorem dX12_game_87 : decode cX12_game 87 = .ok (.iload_n 2, 1) := by decide +kernel
theorem dX12_game_88 : decode cX12_game 88 = .ok (.iload_n 1, 1) := by decide +kernel
theorem dX12_game_89 : decode cX12_game 89 = .ok (.iload_n 3, 1) := by decide +kernel
theorem dX12_game_90 : decode cX12_game 90 = .ok (.iload 7, 2) := by decide +kernel
theorem dX12_game_92 : decode cX12_game 92 = .ok (.invokevirtual 454, 3) := by decide +kernel
theorem dX12_game_95 : decode cX12_game 95 = .ok (.ireturn, 1) := by decide +kernel
theorem dX12_rests_0 : decode cX12_rests 0 = .ok (.aload_n 0, 1) := by decide +kernel
theorem dX12_rests_1 : decode cX12_rests 1 = .ok (.iload_n 1, 1) := by decide +kernel
theorem dX12_rests_2 : decode cX12_rests 2 = .ok (.iload_n 2, 1) := by decide +kernel
theorem dX12_rests_3 : decode cX12_rests 3 = .ok (.invokevirtual 450, 3) := by decide +kernel
theorem dX12_rests_6 : decode cX12_rests 6 = .ok (.ifCond .eq 16, 3) := by decide +kernel
theorem dX12_rests_9 : decode cX12_rests 9 = .ok (.iload_n 3, 1) := by decide +kernel
theorem dX12_rests_10 : decode cX12_rests 10 = .ok (.invokestatic 351, 3) := by decide +kernel
theorem dX12_rests_13 : decode cX12_rests 13 = .ok (.ifCond .eq 9, 3) := by decide +kernel
theorem dX12_rests_16 : decode cX12_rests 16 = .ok (.iload 4, 2) := by decide +kernel
theorem dX12_rests_18 : decode cX12_rests 18 = .ok (.iconst (-1), 1) := by decide +kernel
theorem dX12_rests_19 : decode cX12_rests 19 = .ok (.if_icmp .ge 5, 3) := by decide +kernel
theorem dX12_rests_22 : decode cX12_rests 22 = .ok (.iconst (-1), 1) := by decide +kernel
theorem dX12_rests_23 : decode cX12_rests 23 = .ok (.ireturn, 1) := by decide +kernel
theorem dX12_rests_24 : decode cX12_rests 24 = .ok (.iconst 0, 1) := by decide +kernel
theorem dX12_rests_25 : decode cX12_rests 25 = .ok (.istore 5, 2) := by decide +kernel
theorem dX12_rests_27 : decode cX12_rests 27 = .ok (.iconst 0, 1) := by decide +kernel
theorem dX12_rests_28 : decode cX12_rests 28 = .ok (.istore 6, 2) := by decide +kernel
theorem dX12_rests_30 : decode cX12_rests 30 = .ok (.iload 6, 2) := by decide +kernel
theorem dX12_rests_32 : decode cX12_rests 32 = .ok (.iconst 4, 1) := by decide +kernel
theorem dX12_rests_33 : decode cX12_rests 33 = .ok (.if_icmp .ge 150, 3) := by decide +kernel
theorem dX12_rests_36 : decode cX12_rests 36 = .ok (.iload 6, 2) := by decide +kernel
theorem dX12_rests_38 : decode cX12_rests 38 = .ok (.iconst 2, 1) := by decide +kernel
theorem dX12_rests_39 : decode cX12_rests 39 = .ok (.idiv, 1) := by decide +kernel
theorem dX12_rests_40 : decode cX12_rests 40 = .ok (.istore 7, 2) := by decide +kernel
theorem dX12_rests_42 : decode cX12_rests 42 = .ok (.iload 6, 2) := by decide +kernel
theorem dX12_rests_44 : decode cX12_rests 44 = .ok (.iconst 2, 1) := by decide +kernel
theorem dX12_rests_45 : decode cX12_rests 45 = .ok (.irem, 1) := by decide +kernel
theorem dX12_rests_46 : decode cX12_rests 46 = .ok (.istore 8, 2) := by decide +kernel
theorem dX12_rests_48 : decode cX12_rests 48 = .ok (.iload 7, 2) := by decide +kernel
theorem dX12_rests_50 : decode cX12_rests 50 = .ok (.iload 8, 2) := by decide +kernel
theorem dX12_rests_52 : decode cX12_rests 52 = .ok (.iadd, 1) := by decide +kernel
theorem dX12_rests_53 : decode cX12_rests 53 = .ok (.iconst 2, 1) := by decide +kernel
theorem dX12_rests_54 : decode cX12_rests 54 = .ok (.if_icmp .ne 7, 3) := by decide +kernel
theorem dX12_rests_57 : decode cX12_rests 57 = .ok (.iconst 1, 1) := by decide +kernel
theorem dX12_rests_58 : decode cX12_rests 58 = .ok (.goto 4, 3) := by decide +kernel
theorem dX12_rests_61 : decode cX12_rests 61 = .ok (.iconst 0, 1) := by decide +kernel
theorem dX12_rests_62 : decode cX12_rests 62 = .ok (.istore 9, 2) := by decide +kernel
theorem dX12_rests_64 : decode cX12_rests 64 = .ok (.aload_n 0, 1) := by decide +kernel
theorem dX12_rests_65 : decode cX12_rests 65 = .ok (.iload_n 1, 1) := by decide +kernel
theorem dX12_rests_66 : decode cX12_rests 66 = .ok (.iload_n 2, 1) := by decide +kernel
theorem dX12_rests_67 : decode cX12_rests 67 = .ok (.iload_n 3, 1) := by decide +kernel
theorem dX12_rests_68 : decode cX12_rests 68 = .ok (.iconst 1, 1) := by decide +kernel
theorem dX12_rests_69 : decode cX12_rests 69 = .ok (.iload 7, 2) := by decide +kernel
theorem dX12_rests_71 : decode cX12_rests 71 = .ok (.isub, 1) := by decide +kernel
theorem dX12_rests_72 : decode cX12_rests 72 = .ok (.iload 8, 2) := by decide +kernel
theorem dX12_rests_74 : decode cX12_rests 74 = .ok (.iadd, 1) := by decide +kernel
theorem dX12_rests_75 : decode cX12_rests 75 = .ok (.iconst 2, 1) := by decide +kernel
theorem dX12_rests_76 : decode cX12_rests 76 = .ok (.if_icmp .ne 7, 3) := by decide +kernel
theorem dX12_rests_79 : decode cX12_rests 79 = .ok (.iconst 1, 1) := by decide +kernel
theorem dX12_rests_80 : decode cX12_rests 80 = .ok (.goto 4, 3) := by decide +kernel
theorem dX12_rests_83 : decode cX12_rests 83 = .ok (.iconst 0, 1) := by decide +kernel
theorem dX12_rests_84 : decode cX12_rests 84 = .ok (.invokevirtual 454, 3) := by decide +kernel
theorem dX12_rests_87 : decode cX12_rests 87 = .ok (.aload_n 0, 1) := by decide +kernel
theorem dX12_rests_88 : decode cX12_rests 88 = .ok (.iload_n 1, 1) := by decide +kernel
theorem dX12_rests_89 : decode cX12_rests 89 = .ok (.iload_n 2, 1) := by decide +kernel
theorem dX12_rests_90 : decode cX12_rests 90 = .ok (.iload_n 3, 1) := by decide +kernel
theorem dX12_rests_91 : decode cX12_rests 91 = .ok (.iload 9, 2) := by decide +kernel
theorem dX12_rests_93 : decode cX12_rests 93 = .ok (.invokevirtual 454, 3) := by decide +kernel
theorem dX12_rests_96 : decode cX12_rests 96 = .ok (.if_icmp .gt 7, 3) := by decide +kernel
theorem dX12_rests_99 : decode cX12_rests 99 = .ok (.iconst 1, 1) := by decide +kernel
theorem dX12_rests_100 : decode cX12_rests 100 = .ok (.goto 4, 3) := by decide +kernel
theorem dX12_rests_103 : decode cX12_rests 103 = .ok (.iconst 0, 1) := by decide +kernel
theorem dX12_rests_104 : decode cX12_rests 104 = .ok (.istore 10, 2) := by decide +kernel
theorem dX12_rests_106 : decode cX12_rests 106 = .ok (.aload_n 0, 1) := by decide +kernel
theorem dX12_rests_107 : decode cX12_rests 107 = .ok (.iload_n 2, 1) := by decide +kernel
theorem dX12_rests_108 : decode cX12_rests 108 = .ok (.iload_n 1, 1) := by decide +kernel
theorem dX12_rests_109 : decode cX12_rests 109 = .ok (.iload_n 3, 1) := by decide +kernel
theorem dX12_rests_110 : decode cX12_rests 110 = .ok (.iload 7, 2) := by decide +kernel
theorem dX12_rests_112 : decode cX12_rests 112 = .ok (.iconst 1, 1) := by decide +kernel
theorem dX12_rests_113 : decode cX12_rests 113 = .ok (.iadd, 1) := by decide +kernel
theorem dX12_rests_114 : decode cX12_rests 114 = .ok (.iload 8, 2) := by decide +kernel
theorem dX12_rests_116 : decode cX12_rests 116 = .ok (.isub, 1) := by decide +kernel
theorem dX12_rests_117 : decode cX12_rests 117 = .ok (.iconst 2, 1) := by decide +kernel
theorem dX12_rests_118 : decode cX12_rests 118 = .ok (.if_icmp .ne 7, 3) := by decide +kernel
theorem dX12_rests_121 : decode cX12_rests 121 = .ok (.iconst 1, 1) := by decide +kernel
theorem dX12_rests_122 : decode cX12_rests 122 = .ok (.goto 4, 3) := by decide +kernel
theorem dX12_rests_125 : decode cX12_rests 125 = .ok (.iconst 0, 1) := by decide +kernel
theorem dX12_rests_126 : decode cX12_rests 126 = .ok (.invokevirtual 454, 3) := by decide +kernel
theorem dX12_rests_129 : decode cX12_rests 129 = .ok (.aload_n 0, 1) := by decide +kernel
theorem dX12_rests_130 : decode cX12_rests 130 = .ok (.iload_n 2, 1) := by decide +kernel
theorem dX12_rests_131 : decode cX12_rests 131 = .ok (.iload_n 1, 1) := by decide +kernel
theorem dX12_rests_132 : decode cX12_rests 132 = .ok (.iload_n 3, 1) := by decide +kernel
theorem dX12_rests_133 : decode cX12_rests 133 = .ok (.iload 9, 2) := by decide +kernel
theorem dX12_rests_135 : decode cX12_rests 135 = .ok (.invokevirtual 454, 3) := by decide +kernel
theorem dX12_rests_138 : decode cX12_rests 138 = .ok (.if_icmp .gt 7, 3) := by decide +kernel
theorem dX12_rests_141 : decode cX12_rests 141 = .ok (.iconst 1, 1) := by decide +kernel
theorem dX12_rests_142 : decode cX12_rests 142 = .ok (.goto 4, 3) := by decide +kernel
theorem dX12_rests_145 : decode cX12_rests 145 = .ok (.iconst 0, 1) := by decide +kernel
theorem dX12_rests_146 : decode cX12_rests 146 = .ok (.istore 11, 2) := by decide +kernel
theorem dX12_rests_148 : decode cX12_rests 148 = .ok (.iload 10, 2) := by decide +kernel
theorem dX12_rests_150 : decode cX12_rests 150 = .ok (.ifCond .eq 27, 3) := by decide +kernel
theorem dX12_rests_153 : decode cX12_rests 153 = .ok (.iload 11, 2) := by decide +kernel
theorem dX12_rests_155 : decode cX12_rests 155 = .ok (.ifCond .eq 22, 3) := by decide +kernel
theorem dX12_rests_158 : decode cX12_rests 158 = .ok (.iload 5, 2) := by decide +kernel
theorem dX12_rests_160 : decode cX12_rests 160 = .ok (.iload 4, 2) := by decide +kernel
theorem dX12_rests_162 : decode cX12_rests 162 = .ok (.if_icmp .ne 12, 3) := by decide +kernel
theorem dX12_rests_165 : decode cX12_rests 165 = .ok (.bipush 10, 2) := by decide +kernel
theorem dX12_rests_167 : decode cX12_rests 167 = .ok (.iload 7, 2) := by decide +kernel
theorem dX12_rests_169 : decode cX12_rests 169 = .ok (.imul, 1) := by decide +kernel
theorem dX12_rests_170 : decode cX12_rests 170 = .ok (.iload 8, 2) := by decide +kernel
theorem dX12_rests_172 : decode cX12_rests 172 = .ok (.iadd, 1) := by decide +kernel
theorem dX12_rests_173 : decode cX12_rests 173 = .ok (.ireturn, 1) := by decide +kernel
theorem dX12_rests_174 : decode cX12_rests 174 = .ok (.iinc 5 1, 3) := by decide +kernel
theorem dX12_rests_177 : decode cX12_rests 177 = .ok (.iinc 6 1, 3) := by decide +kernel
theorem dX12_rests_180 : decode cX12_rests 180 = .ok (.goto (-150), 3) := by decide +kernel
theorem dX12_rests_183 : decode cX12_rests 183 = .ok (.iload 4, 2) := by decide +kernel
theorem dX12_rests_185 : decode cX12_rests 185 = .ok (.iconst (-1), 1) := by decide +kernel
theorem dX12_rests_186 : decode cX12_rests 186 = .ok (.if_icmp .ne 8, 3) := by decide +kernel
theorem dX12_rests_189 : decode cX12_rests 189 = .ok (.iload 5, 2) := by decide +kernel
theorem dX12_rests_191 : decode cX12_rests 191 = .ok (.goto 4, 3) := by decide +kernel
theorem dX12_rests_194 : decode cX12_rests 194 = .ok (.iconst (-1), 1) := by decide +kernel
theorem dX12_rests_195 : decode cX12_rests 195 = .ok (.ireturn, 1) := by decide +kernel
theorem dX12_leaves_0 : decode cX12_leaves 0 = .ok (.aload_n 0, 1) := by decide +kernel
theorem dX12_leaves_1 : decode cX12_leaves 1 = .ok (.getfield 271, 3) := by decide +kernel
theorem dX12_leaves_4 : decode cX12_leaves 4 = .ok (.ifCond .eq 10, 3) := by decide +kernel
theorem dX12_leaves_7 : decode cX12_leaves 7 = .ok (.iload_n 1, 1) := by decide +kernel
theorem dX12_leaves_8 : decode cX12_leaves 8 = .ok (.invokestatic 351, 3) := by decide +kernel
theorem dX12_leaves_11 : decode cX12_leaves 11 = .ok (.ifCond .ne 5, 3) := by decide +kernel
theorem dX12_leaves_14 : decode cX12_leaves 14 = .ok (.iconst (-1), 1) := by decide +kernel
theorem dX12_leaves_15 : decode cX12_leaves 15 = .ok (.ireturn, 1) := by decide +kernel
theorem dX12_leaves_16 : decode cX12_leaves 16 = .ok (.iconst 0, 1) := by decide +kernel
theorem dX12_leaves_17 : decode cX12_leaves 17 = .ok (.istore_n 2, 1) := by decide +kernel
theorem dX12_leaves_18 : decode cX12_leaves 18 = .ok (.iconst 0, 1) := by decide +kernel
theorem dX12_leaves_19 : decode cX12_leaves 19 = .ok (.istore_n 3, 1) := by decide +kernel
theorem dX12_leaves_20 : decode cX12_leaves 20 = .ok (.iload_n 3, 1) := by decide +kernel
theorem dX12_leaves_21 : decode cX12_leaves 21 = .ok (.aload_n 0, 1) := by decide +kernel
theorem dX12_leaves_22 : decode cX12_leaves 22 = .ok (.getfield 52, 3) := by decide +kernel
theorem dX12_leaves_25 : decode cX12_leaves 25 = .ok (.bipush 84, 2) := by decide +kernel
theorem dX12_leaves_27 : decode cX12_leaves 27 = .ok (.iaload, 1) := by decide +kernel
theorem dX12_leaves_28 : decode cX12_leaves 28 = .ok (.if_icmp .ge 115, 3) := by decide +kernel
theorem dX12_leaves_31 : decode cX12_leaves 31 = .ok (.aload_n 0, 1) := by decide +kernel
theorem dX12_leaves_32 : decode cX12_leaves 32 = .ok (.iload_n 3, 1) := by decide +kernel
theorem dX12_leaves_33 : decode cX12_leaves 33 = .ok (.invokevirtual 312, 3) := by decide +kernel
theorem dX12_leaves_36 : decode cX12_leaves 36 = .ok (.ifCond .eq 101, 3) := by decide +kernel
theorem dX12_leaves_39 : decode cX12_leaves 39 = .ok (.aload_n 0, 1) := by decide +kernel
theorem dX12_leaves_40 : decode cX12_leaves 40 = .ok (.iload_n 3, 1) := by decide +kernel
theorem dX12_leaves_41 : decode cX12_leaves 41 = .ok (.iconst 0, 1) := by decide +kernel
theorem dX12_leaves_42 : decode cX12_leaves 42 = .ok (.invokevirtual 306, 3) := by decide +kernel
theorem dX12_leaves_45 : decode cX12_leaves 45 = .ok (.istore 4, 2) := by decide +kernel
theorem dX12_leaves_47 : decode cX12_leaves 47 = .ok (.aload_n 0, 1) := by decide +kernel
theorem dX12_leaves_48 : decode cX12_leaves 48 = .ok (.iload_n 3, 1) := by decide +kernel
theorem dX12_leaves_49 : decode cX12_leaves 49 = .ok (.iconst 1, 1) := by decide +kernel
theorem dX12_leaves_50 : decode cX12_leaves 50 = .ok (.invokevirtual 306, 3) := by decide +kernel
theorem dX12_leaves_53 : decode cX12_leaves 53 = .ok (.istore 5, 2) := by decide +kernel
theorem dX12_leaves_55 : decode cX12_leaves 55 = .ok (.aload_n 0, 1) := by decide +kernel
theorem dX12_leaves_56 : decode cX12_leaves 56 = .ok (.iload 4, 2) := by decide +kernel
theorem dX12_leaves_58 : decode cX12_leaves 58 = .ok (.iload 4, 2) := by decide +kernel
theorem dX12_leaves_60 : decode cX12_leaves 60 = .ok (.iload 5, 2) := by decide +kernel
theorem dX12_leaves_62 : decode cX12_leaves 62 = .ok (.iload_n 1, 1) := by decide +kernel
theorem dX12_leaves_63 : decode cX12_leaves 63 = .ok (.invokevirtual 446, 3) := by decide +kernel
theorem dX12_leaves_66 : decode cX12_leaves 66 = .ok (.istore 6, 2) := by decide +kernel
theorem dX12_leaves_68 : decode cX12_leaves 68 = .ok (.aload_n 0, 1) := by decide +kernel
theorem dX12_leaves_69 : decode cX12_leaves 69 = .ok (.iload 5, 2) := by decide +kernel
theorem dX12_leaves_71 : decode cX12_leaves 71 = .ok (.iload 4, 2) := by decide +kernel
theorem dX12_leaves_73 : decode cX12_leaves 73 = .ok (.iload 5, 2) := by decide +kernel
theorem dX12_leaves_75 : decode cX12_leaves 75 = .ok (.iload_n 1, 1) := by decide +kernel
theorem dX12_leaves_76 : decode cX12_leaves 76 = .ok (.invokevirtual 446, 3) := by decide +kernel
theorem dX12_leaves_79 : decode cX12_leaves 79 = .ok (.istore 7, 2) := by decide +kernel
theorem dX12_leaves_81 : decode cX12_leaves 81 = .ok (.aload_n 0, 1) := by decide +kernel
theorem dX12_leaves_82 : decode cX12_leaves 82 = .ok (.iload_n 3, 1) := by decide +kernel
theorem dX12_leaves_83 : decode cX12_leaves 83 = .ok (.iconst 3, 1) := by decide +kernel
theorem dX12_leaves_84 : decode cX12_leaves 84 = .ok (.iconst 1, 1) := by decide +kernel
theorem dX12_leaves_85 : decode cX12_leaves 85 = .ok (.invokevirtual 302, 3) := by decide +kernel
theorem dX12_leaves_88 : decode cX12_leaves 88 = .ok (.iload_n 2, 1) := by decide +kernel
theorem dX12_leaves_89 : decode cX12_leaves 89 = .ok (.aload_n 0, 1) := by decide +kernel
theorem dX12_leaves_90 : decode cX12_leaves 90 = .ok (.iload 4, 2) := by decide +kernel
theorem dX12_leaves_92 : decode cX12_leaves 92 = .ok (.iload 4, 2) := by decide +kernel
theorem dX12_leaves_94 : decode cX12_leaves 94 = .ok (.iload 5, 2) := by decide +kernel
theorem dX12_leaves_96 : decode cX12_leaves 96 = .ok (.iload_n 1, 1) := by decide +kernel
theorem dX12_leaves_97 : decode cX12_leaves 97 = .ok (.invokevirtual 446, 3) := by decide +kernel
theorem dX12_leaves_100 : decode cX12_leaves 100 = .ok (.iload 6, 2) := by decide +kernel
theorem dX12_leaves_102 : decode cX12_leaves 102 = .ok (.if_icmp .lt 19, 3) := by decide +kernel
theorem dX12_leaves_105 : decode cX12_leaves 105 = .ok (.aload_n 0, 1) := by decide +kernel
theorem dX12_leaves_106 : decode cX12_leaves 106 = .ok (.iload 5, 2) := by decide +kernel
theorem dX12_leaves_108 : decode cX12_leaves 108 = .ok (.iload 4, 2) := by decide +kernel
theorem dX12_leaves_110 : decode cX12_leaves 110 = .ok (.iload 5, 2) := by decide +kernel
theorem dX12_leaves_112 : decode cX12_leaves 112 = .ok (.iload_n 1, 1) := by decide +kernel
theorem dX12_leaves_113 : decode cX12_leaves 113 = .ok (.invokevirtual 446, 3) := by decide +kernel
theorem dX12_leaves_116 : decode cX12_leaves 116 = .ok (.iload 7, 2) := by decide +kernel
theorem dX12_leaves_118 : decode cX12_leaves 118 = .ok (.if_icmp .ge 9, 3) := by decide +kernel
theorem dX12_leaves_121 : decode cX12_leaves 121 = .ok (.iconst 1, 1) := by decide +kernel
theorem dX12_leaves_122 : decode cX12_leaves 122 = .ok (.iload_n 3, 1) := by decide +kernel
theorem dX12_leaves_123 : decode cX12_leaves 123 = .ok (.ishl, 1) := by decide +kernel
theorem dX12_leaves_124 : decode cX12_leaves 124 = .ok (.goto 4, 3) := by decide +kernel
theorem dX12_leaves_127 : decode cX12_leaves 127 = .ok (.iconst 0, 1) := by decide +kernel
theorem dX12_leaves_128 : decode cX12_leaves 128 = .ok (.ior, 1) := by decide +kernel
theorem dX12_leaves_129 : decode cX12_leaves 129 = .ok (.istore_n 2, 1) := by decide +kernel
theorem dX12_leaves_130 : decode cX12_leaves 130 = .ok (.aload_n 0, 1) := by decide +kernel
theorem dX12_leaves_131 : decode cX12_leaves 131 = .ok (.iload_n 3, 1) := by decide +kernel
theorem dX12_leaves_132 : decode cX12_leaves 132 = .ok (.iconst 3, 1) := by decide +kernel
theorem dX12_leaves_133 : decode cX12_leaves 133 = .ok (.iconst 0, 1) := by decide +kernel
theorem dX12_leaves_134 : decode cX12_leaves 134 = .ok (.invokevirtual 302, 3) := by decide +kernel
theorem dX12_leaves_137 : decode cX12_leaves 137 = .ok (.iinc 3 1, 3) := by decide +kernel
theorem dX12_leaves_140 : decode cX12_leaves 140 = .ok (.goto (-120), 3) := by decide +kernel
theorem dX12_leaves_143 : decode cX12_leaves 143 = .ok (.iload_n 2, 1) := by decide +kernel
theorem dX12_leaves_144 : decode cX12_leaves 144 = .ok (.ireturn, 1) := by decide +kernel
theorem dX12_scorched_0 : decode cX12_scorched 0 = .ok (.aload_n 0, 1) := by decide +kernel
theorem dX12_scorched_1 : decode cX12_scorched 1 = .ok (.iload_n 1, 1) := by decide +kernel
theorem dX12_scorched_2 : decode cX12_scorched 2 = .ok (.invokevirtual 342, 3) := by decide +kernel
theorem dX12_scorched_5 : decode cX12_scorched 5 = .ok (.ifCond .eq 27, 3) := by decide +kernel
theorem dX12_scorched_8 : decode cX12_scorched 8 = .ok (.aload_n 0, 1) := by decide +kernel
theorem dX12_scorched_9 : decode cX12_scorched 9 = .ok (.iload_n 3, 1) := by decide +kernel
theorem dX12_scorched_10 : decode cX12_scorched 10 = .ok (.invokevirtual 342, 3) := by decide +kernel
theorem dX12_scorched_13 : decode cX12_scorched 13 = .ok (.ifCond .eq 19, 3) := by decide +kernel
theorem dX12_scorched_16 : decode cX12_scorched 16 = .ok (.iload_n 2, 1) := by decide +kernel
theorem dX12_scorched_17 : decode cX12_scorched 17 = .ok (.invokestatic 351, 3) := by decide +kernel
theorem dX12_scorched_20 : decode cX12_scorched 20 = .ok (.ifCond .eq 12, 3) := by decide +kernel
theorem dX12_scorched_23 : decode cX12_scorched 23 = .ok (.aload_n 0, 1) := by decide +kernel
theorem dX12_scorched_24 : decode cX12_scorched 24 = .ok (.getfield 283, 3) := by decide +kernel
theorem dX12_scorched_27 : decode cX12_scorched 27 = .ok (.bipush 10, 2) := by decide +kernel
theorem dX12_scorched_29 : decode cX12_scorched 29 = .ok (.if_icmp .ne 5, 3) := by decide +kernel
theorem dX12_scorched_32 : decode cX12_scorched 32 = .ok (.iconst (-1), 1) := by decide +kernel
theorem dX12_scorched_33 : decode cX12_scorched 33 = .ok (.ireturn, 1) := by decide +kernel
theorem dX12_scorched_34 : decode cX12_scorched 34 = .ok (.aload_n 0, 1) := by decide +kernel
theorem dX12_scorched_35 : decode cX12_scorched 35 = .ok (.getfield 83, 3) := by decide +kernel
theorem dX12_scorched_38 : decode cX12_scorched 38 = .ok (.aload_n 0, 1) := by decide +kernel
theorem dX12_scorched_39 : decode cX12_scorched 39 = .ok (.getfield 283, 3) := by decide +kernel
theorem dX12_scorched_42 : decode cX12_scorched 42 = .ok (.iload_n 1, 1) := by decide +kernel
theorem dX12_scorched_43 : decode cX12_scorched 43 = .ok (.iastore, 1) := by decide +kernel
theorem dX12_scorched_44 : decode cX12_scorched 44 = .ok (.aload_n 0, 1) := by decide +kernel
theorem dX12_scorched_45 : decode cX12_scorched 45 = .ok (.getfield 86, 3) := by decide +kernel
theorem dX12_scorched_48 : decode cX12_scorched 48 = .ok (.aload_n 0, 1) := by decide +kernel
theorem dX12_scorched_49 : decode cX12_scorched 49 = .ok (.getfield 283, 3) := by decide +kernel
theorem dX12_scorched_52 : decode cX12_scorched 52 = .ok (.iload_n 2, 1) := by decide +kernel
theorem dX12_scorched_53 : decode cX12_scorched 53 = .ok (.iastore, 1) := by decide +kernel
theorem dX12_scorched_54 : decode cX12_scorched 54 = .ok (.aload_n 0, 1) := by decide +kernel
theorem dX12_scorched_55 : decode cX12_scorched 55 = .ok (.getfield 89, 3) := by decide +kernel
theorem dX12_scorched_58 : decode cX12_scorched 58 = .ok (.aload_n 0, 1) := by decide +kernel
theorem dX12_scorched_59 : decode cX12_scorched 59 = .ok (.getfield 283, 3) := by decide +kernel
theorem dX12_scorched_62 : decode cX12_scorched 62 = .ok (.iload_n 3, 1) := by decide +kernel
theorem dX12_scorched_63 : decode cX12_scorched 63 = .ok (.iastore, 1) := by decide +kernel
theorem dX12_scorched_64 : decode cX12_scorched 64 = .ok (.aload_n 0, 1) := by decide +kernel
theorem dX12_scorched_65 : decode cX12_scorched 65 = .ok (.getfield 92, 3) := by decide +kernel
theorem dX12_scorched_68 : decode cX12_scorched 68 = .ok (.aload_n 0, 1) := by decide +kernel
theorem dX12_scorched_69 : decode cX12_scorched 69 = .ok (.getfield 283, 3) := by decide +kernel
theorem dX12_scorched_72 : decode cX12_scorched 72 = .ok (.iload 4, 2) := by decide +kernel
theorem dX12_scorched_74 : decode cX12_scorched 74 = .ok (.bastore, 1) := by decide +kernel
theorem dX12_scorched_75 : decode cX12_scorched 75 = .ok (.aload_n 0, 1) := by decide +kernel
theorem dX12_scorched_76 : decode cX12_scorched 76 = .ok (.dup, 1) := by decide +kernel
theorem dX12_scorched_77 : decode cX12_scorched 77 = .ok (.getfield 283, 3) := by decide +kernel
theorem dX12_scorched_80 : decode cX12_scorched 80 = .ok (.iconst 1, 1) := by decide +kernel
theorem dX12_scorched_81 : decode cX12_scorched 81 = .ok (.iadd, 1) := by decide +kernel
theorem dX12_scorched_82 : decode cX12_scorched 82 = .ok (.putfield 283, 3) := by decide +kernel
theorem dX12_scorched_85 : decode cX12_scorched 85 = .ok (.aload_n 0, 1) := by decide +kernel
theorem dX12_scorched_86 : decode cX12_scorched 86 = .ok (.getfield 283, 3) := by decide +kernel
theorem dX12_scorched_89 : decode cX12_scorched 89 = .ok (.ireturn, 1) := by decide +kernel
theorem dX12_isSo_0 : decode cX12_isSo 0 = .ok (.iload_n 2, 1) := by decide +kernel
theorem dX12_isSo_1 : decode cX12_isSo 1 = .ok (.invokestatic 417, 3) := by decide +kernel
theorem dX12_isSo_4 : decode cX12_isSo 4 = .ok (.iload_n 1, 1) := by decide +kernel
theorem dX12_isSo_5 : decode cX12_isSo 5 = .ok (.if_icmp .ne 14, 3) := by decide +kernel
theorem dX12_isSo_8 : decode cX12_isSo 8 = .ok (.iload_n 2, 1) := by decide +kernel
theorem dX12_isSo_9 : decode cX12_isSo 9 = .ok (.aload_n 0, 1) := by decide +kernel
theorem dX12_isSo_10 : decode cX12_isSo 10 = .ok (.invokevirtual 443, 3) := by decide +kernel
theorem dX12_isSo_13 : decode cX12_isSo 13 = .ok (.iconst (-1), 1) := by decide +kernel
theorem dX12_isSo_14 : decode cX12_isSo 14 = .ok (.ixor, 1) := by decide +kernel
theorem dX12_isSo_15 : decode cX12_isSo 15 = .ok (.iand, 1) := by decide +kernel
theorem dX12_isSo_16 : decode cX12_isSo 16 = .ok (.ifCond .eq 5, 3) := by decide +kernel
theorem dX12_isSo_19 : decode cX12_isSo 19 = .ok (.iconst 0, 1) := by decide +kernel
theorem dX12_isSo_20 : decode cX12_isSo 20 = .ok (.ireturn, 1) := by decide +kernel
theorem dX12_isSo_21 : decode cX12_isSo 21 = .ok (.aload_n 0, 1) := by decide +kernel
theorem dX12_isSo_22 : decode cX12_isSo 22 = .ok (.iload_n 2, 1) := by decide +kernel
theorem dX12_isSo_23 : decode cX12_isSo 23 = .ok (.iconst 1, 1) := by decide +kernel
theorem dX12_isSo_24 : decode cX12_isSo 24 = .ok (.invokevirtual 428, 3) := by decide +kernel
theorem dX12_isSo_27 : decode cX12_isSo 27 = .ok (.iconst 1, 1) := by decide +kernel
theorem dX12_isSo_28 : decode cX12_isSo 28 = .ok (.istore_n 3, 1) := by decide +kernel
theorem dX12_isSo_29 : decode cX12_isSo 29 = .ok (.iconst 0, 1) := by decide +kernel
theorem dX12_isSo_30 : decode cX12_isSo 30 = .ok (.istore 4, 2) := by decide +kernel
theorem dX12_isSo_32 : decode cX12_isSo 32 = .ok (.iload 4, 2) := by decide +kernel
theorem dX12_isSo_34 : decode cX12_isSo 34 = .ok (.aload_n 0, 1) := by decide +kernel
theorem dX12_isSo_35 : decode cX12_isSo 35 = .ok (.getfield 283, 3) := by decide +kernel
theorem dX12_isSo_38 : decode cX12_isSo 38 = .ok (.if_icmp .ge 57, 3) := by decide +kernel
theorem dX12_isSo_41 : decode cX12_isSo 41 = .ok (.iload_n 3, 1) := by decide +kernel
theorem dX12_isSo_42 : decode cX12_isSo 42 = .ok (.ifCond .eq 53, 3) := by decide +kernel
theorem dX12_isSo_45 : decode cX12_isSo 45 = .ok (.aload_n 0, 1) := by decide +kernel
theorem dX12_isSo_46 : decode cX12_isSo 46 = .ok (.aload_n 0, 1) := by decide +kernel
theorem dX12_isSo_47 : decode cX12_isSo 47 = .ok (.getfield 83, 3) := by decide +kernel
theorem dX12_isSo_50 : decode cX12_isSo 50 = .ok (.iload 4, 2) := by decide +kernel
theorem dX12_isSo_52 : decode cX12_isSo 52 = .ok (.iaload, 1) := by decide +kernel
theorem dX12_isSo_53 : decode cX12_isSo 53 = .ok (.aload_n 0, 1) := by decide +kernel
theorem dX12_isSo_54 : decode cX12_isSo 54 = .ok (.getfield 86, 3) := by decide +kernel
theorem dX12_isSo_57 : decode cX12_isSo 57 = .ok (.iload 4, 2) := by decide +kernel
theorem dX12_isSo_59 : decode cX12_isSo 59 = .ok (.iaload, 1) := by decide +kernel
theorem dX12_isSo_60 : decode cX12_isSo 60 = .ok (.invokevirtual 348, 3) := by decide +kernel
theorem dX12_isSo_63 : decode cX12_isSo 63 = .ok (.aload_n 0, 1) := by decide +kernel
theorem dX12_isSo_64 : decode cX12_isSo 64 = .ok (.getfield 89, 3) := by decide +kernel
theorem dX12_isSo_67 : decode cX12_isSo 67 = .ok (.iload 4, 2) := by decide +kernel
theorem dX12_isSo_69 : decode cX12_isSo 69 = .ok (.iaload, 1) := by decide +kernel
theorem dX12_isSo_70 : decode cX12_isSo 70 = .ok (.invokestatic 234, 3) := by decide +kernel
theorem dX12_isSo_73 : decode cX12_isSo 73 = .ok (.aload_n 0, 1) := by decide +kernel
theorem dX12_isSo_74 : decode cX12_isSo 74 = .ok (.getfield 92, 3) := by decide +kernel
theorem dX12_isSo_77 : decode cX12_isSo 77 = .ok (.iload 4, 2) := by decide +kernel
theorem dX12_isSo_79 : decode cX12_isSo 79 = .ok (.baload, 1) := by decide +kernel
theorem dX12_isSo_80 : decode cX12_isSo 80 = .ok (.if_icmp .ne 7, 3) := by decide +kernel
theorem dX12_isSo_83 : decode cX12_isSo 83 = .ok (.iconst 1, 1) := by decide +kernel
theorem dX12_isSo_84 : decode cX12_isSo 84 = .ok (.goto 4, 3) := by decide +kernel
theorem dX12_isSo_87 : decode cX12_isSo 87 = .ok (.iconst 0, 1) := by decide +kernel
theorem dX12_isSo_88 : decode cX12_isSo 88 = .ok (.istore_n 3, 1) := by decide +kernel
theorem dX12_isSo_89 : decode cX12_isSo 89 = .ok (.iinc 4 1, 3) := by decide +kernel
theorem dX12_isSo_92 : decode cX12_isSo 92 = .ok (.goto (-60), 3) := by decide +kernel
theorem dX12_isSo_95 : decode cX12_isSo 95 = .ok (.aload_n 0, 1) := by decide +kernel
theorem dX12_isSo_96 : decode cX12_isSo 96 = .ok (.iload_n 2, 1) := by decide +kernel
theorem dX12_isSo_97 : decode cX12_isSo 97 = .ok (.iconst 0, 1) := by decide +kernel
theorem dX12_isSo_98 : decode cX12_isSo 98 = .ok (.invokevirtual 428, 3) := by decide +kernel
theorem dX12_isSo_101 : decode cX12_isSo 101 = .ok (.iload_n 3, 1) := by decide +kernel
theorem dX12_isSo_102 : decode cX12_isSo 102 = .ok (.ireturn, 1) := by decide +kernel
theorem dX12_areCuts_0 : decode cX12_areCuts 0 = .ok (.aload_n 0, 1) := by decide +kernel
theorem dX12_areCuts_1 : decode cX12_areCuts 1 = .ok (.getfield 271, 3) := by decide +kernel
theorem dX12_areCuts_4 : decode cX12_areCuts 4 = .ok (.ifCond .le 16, 3) := by decide +kernel
theorem dX12_areCuts_7 : decode cX12_areCuts 7 = .ok (.iload_n 1, 1) := by decide +kernel
theorem dX12_areCuts_8 : decode cX12_areCuts 8 = .ok (.iconst 0, 1) := by decide +kernel
theorem dX12_areCuts_9 : decode cX12_areCuts 9 = .ok (.iconst 2, 1) := by decide +kernel
theorem dX12_areCuts_10 : decode cX12_areCuts 10 = .ok (.invokestatic 223, 3) := by decide +kernel
theorem dX12_areCuts_13 : decode cX12_areCuts 13 = .ok (.ifCond .eq 7, 3) := by decide +kernel
theorem dX12_areCuts_16 : decode cX12_areCuts 16 = .ok (.iconst 1, 1) := by decide +kernel
theorem dX12_areCuts_17 : decode cX12_areCuts 17 = .ok (.goto 4, 3) := by decide +kernel
theorem dX12_areCuts_20 : decode cX12_areCuts 20 = .ok (.iconst 0, 1) := by decide +kernel
theorem dX12_areCuts_21 : decode cX12_areCuts 21 = .ok (.ireturn, 1) := by decide +kernel
theorem dX12_who_0 : decode cX12_who 0 = .ok (.aload_n 0, 1) := by decide +kernel
theorem dX12_who_1 : decode cX12_who 1 = .ok (.iload_n 1, 1) := by decide +kernel
theorem dX12_who_2 : decode cX12_who 2 = .ok (.invokevirtual 458, 3) := by decide +kernel
theorem dX12_who_5 : decode cX12_who 5 = .ok (.ifCond .eq 8, 3) := by decide +kernel
theorem dX12_who_8 : decode cX12_who 8 = .ok (.iload_n 2, 1) := by decide +kernel
theorem dX12_who_9 : decode cX12_who 9 = .ok (.iconst (-1), 1) := by decide +kernel
theorem dX12_who_10 : decode cX12_who 10 = .ok (.if_icmp .ge 5, 3) := by decide +kernel
theorem dX12_who_13 : decode cX12_who 13 = .ok (.iconst (-1), 1) := by decide +kernel
theorem dX12_who_14 : decode cX12_who 14 = .ok (.ireturn, 1) := by decide +kernel
theorem dX12_who_15 : decode cX12_who 15 = .ok (.iconst 0, 1) := by decide +kernel
theorem dX12_who_16 : decode cX12_who 16 = .ok (.istore_n 3, 1) := by decide +kernel
theorem dX12_who_17 : decode cX12_who 17 = .ok (.iconst 0, 1) := by decide +kernel
theorem dX12_who_18 : decode cX12_who 18 = .ok (.istore 4, 2) := by decide +kernel
theorem dX12_who_20 : decode cX12_who 20 = .ok (.iload 4, 2) := by decide +kernel
theorem dX12_who_22 : decode cX12_who 22 = .ok (.iconst 1, 1) := by decide +kernel
theorem dX12_who_23 : decode cX12_who 23 = .ok (.aload_n 0, 1) := by decide +kernel
theorem dX12_who_24 : decode cX12_who 24 = .ok (.getfield 52, 3) := by decide +kernel
theorem dX12_who_27 : decode cX12_who 27 = .ok (.bipush 84, 2) := by decide +kernel
theorem dX12_who_29 : decode cX12_who 29 = .ok (.iaload, 1) := by decide +kernel
theorem dX12_who_30 : decode cX12_who 30 = .ok (.ishl, 1) := by decide +kernel
theorem dX12_who_31 : decode cX12_who 31 = .ok (.if_icmp .ge 30, 3) := by decide +kernel
theorem dX12_who_34 : decode cX12_who 34 = .ok (.aload_n 0, 1) := by decide +kernel
theorem dX12_who_35 : decode cX12_who 35 = .ok (.iload_n 1, 1) := by decide +kernel
theorem dX12_who_36 : decode cX12_who 36 = .ok (.iload 4, 2) := by decide +kernel
theorem dX12_who_38 : decode cX12_who 38 = .ok (.invokevirtual 461, 3) := by decide +kernel
theorem dX12_who_41 : decode cX12_who 41 = .ok (.ifCond .eq 14, 3) := by decide +kernel
theorem dX12_who_44 : decode cX12_who 44 = .ok (.iload_n 3, 1) := by decide +kernel
theorem dX12_who_45 : decode cX12_who 45 = .ok (.iload_n 2, 1) := by decide +kernel
theorem dX12_who_46 : decode cX12_who 46 = .ok (.if_icmp .ne 6, 3) := by decide +kernel
theorem dX12_who_49 : decode cX12_who 49 = .ok (.iload 4, 2) := by decide +kernel
theorem dX12_who_51 : decode cX12_who 51 = .ok (.ireturn, 1) := by decide +kernel
theorem dX12_who_52 : decode cX12_who 52 = .ok (.iinc 3 1, 3) := by decide +kernel
theorem dX12_who_55 : decode cX12_who 55 = .ok (.iinc 4 1, 3) := by decide +kernel
theorem dX12_who_58 : decode cX12_who 58 = .ok (.goto (-38), 3) := by decide +kernel
theorem dX12_who_61 : decode cX12_who 61 = .ok (.iload_n 2, 1) := by decide +kernel
theorem dX12_who_62 : decode cX12_who 62 = .ok (.iconst (-1), 1) := by decide +kernel
theorem dX12_who_63 : decode cX12_who 63 = .ok (.if_icmp .ne 7, 3) := by decide +kernel
theorem dX12_who_66 : decode cX12_who 66 = .ok (.iload_n 3, 1) := by decide +kernel
theorem dX12_who_67 : decode cX12_who 67 = .ok (.goto 4, 3) := by decide +kernel
theorem dX12_who_70 : decode cX12_who 70 = .ok (.iconst (-1), 1) := by decide +kernel
theorem dX12_who_71 : decode cX12_who 71 = .ok (.ireturn, 1) := by decide +kernel
theorem dX12_sure_0 : decode cX12_sure 0 = .ok (.aload_n 0, 1) := by decide +kernel
theorem dX12_sure_1 : decode cX12_sure 1 = .ok (.iload_n 1, 1) := by decide +kernel
theorem dX12_sure_2 : decode cX12_sure 2 = .ok (.invokevirtual 458, 3) := by decide +kernel
theorem dX12_sure_5 : decode cX12_sure 5 = .ok (.ifCond .ne 5, 3) := by decide +kernel
theorem dX12_sure_8 : decode cX12_sure 8 = .ok (.iconst (-1), 1) := by decide +kernel
theorem dX12_sure_9 : decode cX12_sure 9 = .ok (.ireturn, 1) := by decide +kernel
theorem dX12_sure_10 : decode cX12_sure 10 = .ok (.iconst (-1), 1) := by decide +kernel
theorem dX12_sure_11 : decode cX12_sure 11 = .ok (.istore_n 2, 1) := by decide +kernel
theorem dX12_sure_12 : decode cX12_sure 12 = .ok (.iconst 0, 1) := by decide +kernel
theorem dX12_sure_13 : decode cX12_sure 13 = .ok (.istore_n 3, 1) := by decide +kernel
theorem dX12_sure_14 : decode cX12_sure 14 = .ok (.iload_n 3, 1) := by decide +kernel
theorem dX12_sure_15 : decode cX12_sure 15 = .ok (.iconst 1, 1) := by decide +kernel
theorem dX12_sure_16 : decode cX12_sure 16 = .ok (.aload_n 0, 1) := by decide +kernel
theorem dX12_sure_17 : decode cX12_sure 17 = .ok (.getfield 52, 3) := by decide +kernel
theorem dX12_sure_20 : decode cX12_sure 20 = .ok (.bipush 84, 2) := by decide +kernel
theorem dX12_sure_22 : decode cX12_sure 22 = .ok (.iaload, 1) := by decide +kernel
theorem dX12_sure_23 : decode cX12_sure 23 = .ok (.ishl, 1) := by decide +kernel
theorem dX12_sure_24 : decode cX12_sure 24 = .ok (.if_icmp .ge 26, 3) := by decide +kernel
theorem dX12_sure_27 : decode cX12_sure 27 = .ok (.iload_n 2, 1) := by decide +kernel
theorem dX12_sure_28 : decode cX12_sure 28 = .ok (.aload_n 0, 1) := by decide +kernel
theorem dX12_sure_29 : decode cX12_sure 29 = .ok (.iload_n 1, 1) := by decide +kernel
theorem dX12_sure_30 : decode cX12_sure 30 = .ok (.iload_n 3, 1) := by decide +kernel
theorem dX12_sure_31 : decode cX12_sure 31 = .ok (.invokevirtual 461, 3) := by decide +kernel
theorem dX12_sure_34 : decode cX12_sure 34 = .ok (.ifCond .eq 7, 3) := by decide +kernel
theorem dX12_sure_37 : decode cX12_sure 37 = .ok (.iload_n 3, 1) := by decide +kernel
theorem dX12_sure_38 : decode cX12_sure 38 = .ok (.goto 4, 3) := by decide +kernel
theorem dX12_sure_41 : decode cX12_sure 41 = .ok (.iconst (-1), 1) := by decide +kernel
theorem dX12_sure_42 : decode cX12_sure 42 = .ok (.iand, 1) := by decide +kernel
theorem dX12_sure_43 : decode cX12_sure 43 = .ok (.istore_n 2, 1) := by decide +kernel
theorem dX12_sure_44 : decode cX12_sure 44 = .ok (.iinc 3 1, 3) := by decide +kernel
theorem dX12_sure_47 : decode cX12_sure 47 = .ok (.goto (-33), 3) := by decide +kernel
theorem dX12_sure_50 : decode cX12_sure 50 = .ok (.iload_n 2, 1) := by decide +kernel
theorem dX12_sure_51 : decode cX12_sure 51 = .ok (.ireturn, 1) := by decide +kernel
theorem dX12_best_0 : decode cX12_best 0 = .ok (.aload_n 0, 1) := by decide +kernel
theorem dX12_best_1 : decode cX12_best 1 = .ok (.iload_n 1, 1) := by decide +kernel
theorem dX12_best_2 : decode cX12_best 2 = .ok (.invokevirtual 458, 3) := by decide +kernel
theorem dX12_best_5 : decode cX12_best 5 = .ok (.ifCond .ne 5, 3) := by decide +kernel
theorem dX12_best_8 : decode cX12_best 8 = .ok (.iconst (-1), 1) := by decide +kernel
theorem dX12_best_9 : decode cX12_best 9 = .ok (.ireturn, 1) := by decide +kernel
theorem dX12_best_10 : decode cX12_best 10 = .ok (.iconst 0, 1) := by decide +kernel
theorem dX12_best_11 : decode cX12_best 11 = .ok (.istore_n 2, 1) := by decide +kernel
theorem dX12_best_12 : decode cX12_best 12 = .ok (.iconst 0, 1) := by decide +kernel
theorem dX12_best_13 : decode cX12_best 13 = .ok (.istore_n 3, 1) := by decide +kernel
theorem dX12_best_14 : decode cX12_best 14 = .ok (.iload_n 3, 1) := by decide +kernel
theorem dX12_best_15 : decode cX12_best 15 = .ok (.bipush 8, 2) := by decide +kernel
theorem dX12_best_17 : decode cX12_best 17 = .ok (.if_icmp .ge 16, 3) := by decide +kernel
theorem dX12_best_20 : decode cX12_best 20 = .ok (.aload_n 0, 1) := by decide +kernel
theorem dX12_best_21 : decode cX12_best 21 = .ok (.getfield 96, 3) := by decide +kernel
theorem dX12_best_24 : decode cX12_best 24 = .ok (.iload_n 3, 1) := by decide +kernel
theorem dX12_best_25 : decode cX12_best 25 = .ok (.iconst 0, 1) := by decide +kernel
theorem dX12_best_26 : decode cX12_best 26 = .ok (.iastore, 1) := by decide +kernel
theorem dX12_best_27 : decode cX12_best 27 = .ok (.iinc 3 1, 3) := by decide +kernel
theorem dX12_best_30 : decode cX12_best 30 = .ok (.goto (-16), 3) := by decide +kernel
theorem dX12_best_33 : decode cX12_best 33 = .ok (.iconst 0, 1) := by decide +kernel
theorem dX12_best_34 : decode cX12_best 34 = .ok (.istore_n 3, 1) := by decide +kernel
theorem dX12_best_35 : decode cX12_best 35 = .ok (.iload_n 3, 1) := by decide +kernel
theorem dX12_best_36 : decode cX12_best 36 = .ok (.iconst 1, 1) := by decide +kernel
theorem dX12_best_37 : decode cX12_best 37 = .ok (.aload_n 0, 1) := by decide +kernel
theorem dX12_best_38 : decode cX12_best 38 = .ok (.getfield 52, 3) := by decide +kernel
theorem dX12_best_41 : decode cX12_best 41 = .ok (.bipush 84, 2) := by decide +kernel
theorem dX12_best_43 : decode cX12_best 43 = .ok (.iaload, 1) := by decide +kernel
theorem dX12_best_44 : decode cX12_best 44 = .ok (.ishl, 1) := by decide +kernel
theorem dX12_best_45 : decode cX12_best 45 = .ok (.if_icmp .ge 76, 3) := by decide +kernel
theorem dX12_best_48 : decode cX12_best 48 = .ok (.aload_n 0, 1) := by decide +kernel
theorem dX12_best_49 : decode cX12_best 49 = .ok (.iload_n 1, 1) := by decide +kernel
theorem dX12_best_50 : decode cX12_best 50 = .ok (.iload_n 3, 1) := by decide +kernel
theorem dX12_best_51 : decode cX12_best 51 = .ok (.invokevirtual 461, 3) := by decide +kernel
theorem dX12_best_54 : decode cX12_best 54 = .ok (.ifCond .eq 61, 3) := by decide +kernel
theorem dX12_best_57 : decode cX12_best 57 = .ok (.iconst 1, 1) := by decide +kernel
theorem dX12_best_58 : decode cX12_best 58 = .ok (.istore_n 2, 1) := by decide +kernel
theorem dX12_best_59 : decode cX12_best 59 = .ok (.aload_n 0, 1) := by decide +kernel
theorem dX12_best_60 : decode cX12_best 60 = .ok (.iload_n 3, 1) := by decide +kernel
theorem dX12_best_61 : decode cX12_best 61 = .ok (.iconst 1, 1) := by decide +kernel
theorem dX12_best_62 : decode cX12_best 62 = .ok (.invokevirtual 428, 3) := by decide +kernel
theorem dX12_best_65 : decode cX12_best 65 = .ok (.iconst 0, 1) := by decide +kernel
theorem dX12_best_66 : decode cX12_best 66 = .ok (.istore 4, 2) := by decide +kernel
theorem dX12_best_68 : decode cX12_best 68 = .ok (.iload 4, 2) := by decide +kernel
theorem dX12_best_70 : decode cX12_best 70 = .ok (.aload_n 0, 1) := by decide +kernel
theorem dX12_best_71 : decode cX12_best 71 = .ok (.getfield 271, 3) := by decide +kernel
theorem dX12_best_74 : decode cX12_best 74 = .ok (.if_icmp .ge 35, 3) := by decide +kernel
theorem dX12_best_77 : decode cX12_best 77 = .ok (.aload_n 0, 1) := by decide +kernel
theorem dX12_best_78 : decode cX12_best 78 = .ok (.getfield 96, 3) := by decide +kernel
theorem dX12_best_81 : decode cX12_best 81 = .ok (.iload 4, 2) := by decide +kernel
theorem dX12_best_83 : decode cX12_best 83 = .ok (.dup2, 1) := by decide +kernel
theorem dX12_best_84 : decode cX12_best 84 = .ok (.iaload, 1) := by decide +kernel
theorem dX12_best_85 : decode cX12_best 85 = .ok (.aload_n 0, 1) := by decide +kernel
theorem dX12_best_86 : decode cX12_best 86 = .ok (.iload 4, 2) := by decide +kernel
theorem dX12_best_88 : decode cX12_best 88 = .ok (.bipush 50, 2) := by decide +kernel
theorem dX12_best_90 : decode cX12_best 90 = .ok (.invokevirtual 348, 3) := by decide +kernel
theorem dX12_best_93 : decode cX12_best 93 = .ok (.ifCond .eq 7, 3) := by decide +kernel
theorem dX12_best_96 : decode cX12_best 96 = .ok (.iconst 1, 1) := by decide +kernel
theorem dX12_best_97 : decode cX12_best 97 = .ok (.goto 4, 3) := by decide +kernel
theorem dX12_best_100 : decode cX12_best 100 = .ok (.iconst (-1), 1) := by decide +kernel
theorem dX12_best_101 : decode cX12_best 101 = .ok (.iadd, 1) := by decide +kernel
theorem dX12_best_102 : decode cX12_best 102 = .ok (.iastore, 1) := by decide +kernel
theorem dX12_best_103 : decode cX12_best 103 = .ok (.iinc 4 1, 3) := by decide +kernel
theorem dX12_best_106 : decode cX12_best 106 = .ok (.goto (-38), 3) := by decide +kernel
theorem dX12_best_109 : decode cX12_best 109 = .ok (.aload_n 0, 1) := by decide +kernel
theorem dX12_best_110 : decode cX12_best 110 = .ok (.iload_n 3, 1) := by decide +kernel
theorem dX12_best_111 : decode cX12_best 111 = .ok (.iconst 0, 1) := by decide +kernel
theorem dX12_best_112 : decode cX12_best 112 = .ok (.invokevirtual 428, 3) := by decide +kernel
theorem dX12_best_115 : decode cX12_best 115 = .ok (.iinc 3 1, 3) := by decide +kernel
theorem dX12_best_118 : decode cX12_best 118 = .ok (.goto (-83), 3) := by decide +kernel
theorem dX12_best_121 : decode cX12_best 121 = .ok (.iconst 0, 1) := by decide +kernel
theorem dX12_best_122 : decode cX12_best 122 = .ok (.istore_n 3, 1) := by decide +kernel
theorem dX12_best_123 : decode cX12_best 123 = .ok (.iconst 1, 1) := by decide +kernel
theorem dX12_best_124 : decode cX12_best 124 = .ok (.istore 4, 2) := by decide +kernel
theorem dX12_best_126 : decode cX12_best 126 = .ok (.iload 4, 2) := by decide +kernel
theorem dX12_best_128 : decode cX12_best 128 = .ok (.aload_n 0, 1) := by decide +kernel
theorem dX12_best_129 : decode cX12_best 129 = .ok (.getfield 271, 3) := by decide +kernel
theorem dX12_best_132 : decode cX12_best 132 = .ok (.if_icmp .ge 38, 3) := by decide +kernel
theorem dX12_best_135 : decode cX12_best 135 = .ok (.aload_n 0, 1) := by decide +kernel
theorem dX12_best_136 : decode cX12_best 136 = .ok (.getfield 96, 3) := by decide +kernel
theorem dX12_best_139 : decode cX12_best 139 = .ok (.iload 4, 2) := by decide +kernel
theorem dX12_best_141 : decode cX12_best 141 = .ok (.iaload, 1) := by decide +kernel
theorem dX12_best_142 : decode cX12_best 142 = .ok (.invokestatic 309, 3) := by decide +kernel
theorem dX12_best_145 : decode cX12_best 145 = .ok (.aload_n 0, 1) := by decide +kernel
theorem dX12_best_146 : decode cX12_best 146 = .ok (.getfield 96, 3) := by decide +kernel
theorem dX12_best_149 : decode cX12_best 149 = .ok (.iload_n 3, 1) := by decide +kernel
theorem dX12_best_150 : decode cX12_best 150 = .ok (.iaload, 1) := by decide +kernel
theorem dX12_best_151 : decode cX12_best 151 = .ok (.invokestatic 309, 3) := by decide +kernel
theorem dX12_best_154 : decode cX12_best 154 = .ok (.if_icmp .ge 8, 3) := by decide +kernel
theorem dX12_best_157 : decode cX12_best 157 = .ok (.iload 4, 2) := by decide +kernel
theorem dX12_best_159 : decode cX12_best 159 = .ok (.goto 4, 3) := by decide +kernel
theorem dX12_best_162 : decode cX12_best 162 = .ok (.iload_n 3, 1) := by decide +kernel
theorem dX12_best_163 : decode cX12_best 163 = .ok (.istore_n 3, 1) := by decide +kernel
theorem dX12_best_164 : decode cX12_best 164 = .ok (.iinc 4 1, 3) := by decide +kernel
theorem dX12_best_167 : decode cX12_best 167 = .ok (.goto (-41), 3) := by decide +kernel
theorem dX12_best_170 : decode cX12_best 170 = .ok (.iload_n 2, 1) := by decide +kernel
theorem dX12_best_171 : decode cX12_best 171 = .ok (.ifCond .eq 7, 3) := by decide +kernel
theorem dX12_best_174 : decode cX12_best 174 = .ok (.iload_n 3, 1) := by decide +kernel
theorem dX12_best_175 : decode cX12_best 175 = .ok (.goto 4, 3) := by decide +kernel
theorem dX12_best_178 : decode cX12_best 178 = .ok (.iconst (-1), 1) := by decide +kernel
theorem dX12_best_179 : decode cX12_best 179 = .ok (.ireturn, 1) := by decide +kernel
theorem dX12_oddsOf_0 : decode cX12_oddsOf 0 = .ok (.lconst 0, 1) := by decide +kernel
theorem dX12_oddsOf_1 : decode cX12_oddsOf 1 = .ok (.lstore_n 3, 1) := by decide +kernel
theorem dX12_oddsOf_2 : decode cX12_oddsOf 2 = .ok (.iconst 0, 1) := by decide +kernel
theorem dX12_oddsOf_3 : decode cX12_oddsOf 3 = .ok (.istore 5, 2) := by decide +kernel
theorem dX12_oddsOf_5 : decode cX12_oddsOf 5 = .ok (.iload 5, 2) := by decide +kernel
theorem dX12_oddsOf_7 : decode cX12_oddsOf 7 = .ok (.aload_n 0, 1) := by decide +kernel
theorem dX12_oddsOf_8 : decode cX12_oddsOf 8 = .ok (.getfield 271, 3) := by decide +kernel
theorem dX12_oddsOf_11 : decode cX12_oddsOf 11 = .ok (.if_icmp .ge 48, 3) := by decide +kernel
theorem dX12_oddsOf_14 : decode cX12_oddsOf 14 = .ok (.lload_n 3, 1) := by decide +kernel
theorem dX12_oddsOf_15 : decode cX12_oddsOf 15 = .ok (.aload_n 0, 1) := by decide +kernel
theorem dX12_oddsOf_16 : decode cX12_oddsOf 16 = .ok (.iload 5, 2) := by decide +kernel
theorem dX12_oddsOf_18 : decode cX12_oddsOf 18 = .ok (.iload_n 2, 1) := by decide +kernel
theorem dX12_oddsOf_19 : decode cX12_oddsOf 19 = .ok (.invokevirtual 348, 3) := by decide +kernel
theorem dX12_oddsOf_22 : decode cX12_oddsOf 22 = .ok (.iload_n 1, 1) := by decide +kernel
theorem dX12_oddsOf_23 : decode cX12_oddsOf 23 = .ok (.invokestatic 234, 3) := by decide +kernel
theorem dX12_oddsOf_26 : decode cX12_oddsOf 26 = .ok (.ifCond .eq 24, 3) := by decide +kernel
theorem dX12_oddsOf_29 : decode cX12_oddsOf 29 = .ok (.ldc2_w 464, 3) := by decide +kernel
theorem dX12_oddsOf_32 : decode cX12_oddsOf 32 = .ok (.aload_n 0, 1) := by decide +kernel
theorem dX12_oddsOf_33 : decode cX12_oddsOf 33 = .ok (.iload 5, 2) := by decide +kernel
theorem dX12_oddsOf_35 : decode cX12_oddsOf 35 = .ok (.iconst 1, 1) := by decide +kernel
theorem dX12_oddsOf_36 : decode cX12_oddsOf 36 = .ok (.invokevirtual 277, 3) := by decide +kernel
theorem dX12_oddsOf_39 : decode cX12_oddsOf 39 = .ok (.i2l, 1) := by decide +kernel
theorem dX12_oddsOf_40 : decode cX12_oddsOf 40 = .ok (.lmul, 1) := by decide +kernel
theorem dX12_oddsOf_41 : decode cX12_oddsOf 41 = .ok (.aload_n 0, 1) := by decide +kernel
theorem dX12_oddsOf_42 : decode cX12_oddsOf 42 = .ok (.invokevirtual 395, 3) := by decide +kernel
theorem dX12_oddsOf_45 : decode cX12_oddsOf 45 = .ok (.i2l, 1) := by decide +kernel
theorem dX12_oddsOf_46 : decode cX12_oddsOf 46 = .ok (.ldiv, 1) := by decide +kernel
theorem dX12_oddsOf_47 : decode cX12_oddsOf 47 = .ok (.goto 4, 3) := by decide +kernel
theorem dX12_oddsOf_50 : decode cX12_oddsOf 50 = .ok (.lconst 0, 1) := by decide +kernel
theorem dX12_oddsOf_51 : decode cX12_oddsOf 51 = .ok (.ladd, 1) := by decide +kernel
theorem dX12_oddsOf_52 : decode cX12_oddsOf 52 = .ok (.lstore_n 3, 1) := by decide +kernel
theorem dX12_oddsOf_53 : decode cX12_oddsOf 53 = .ok (.iinc 5 1, 3) := by decide +kernel
theorem dX12_oddsOf_56 : decode cX12_oddsOf 56 = .ok (.goto (-51), 3) := by decide +kernel
theorem dX12_oddsOf_59 : decode cX12_oddsOf 59 = .ok (.lload_n 3, 1) := by decide +kernel
theorem dX12_oddsOf_60 : decode cX12_oddsOf 60 = .ok (.l2i, 1) := by decide +kernel
theorem dX12_oddsOf_61 : decode cX12_oddsOf 61 = .ok (.ireturn, 1) := by decide +kernel
theorem dX12_odds_0 : decode cX12_odds 0 = .ok (.aload_n 0, 1) := by decide +kernel
theorem dX12_odds_1 : decode cX12_odds 1 = .ok (.iload_n 1, 1) := by decide +kernel
theorem dX12_odds_2 : decode cX12_odds 2 = .ok (.invokevirtual 342, 3) := by decide +kernel
theorem dX12_odds_5 : decode cX12_odds 5 = .ok (.ifCond .eq 19, 3) := by decide +kernel
theorem dX12_odds_8 : decode cX12_odds 8 = .ok (.iload_n 2, 1) := by decide +kernel
theorem dX12_odds_9 : decode cX12_odds 9 = .ok (.invokestatic 351, 3) := by decide +kernel
theorem dX12_odds_12 : decode cX12_odds 12 = .ok (.ifCond .eq 12, 3) := by decide +kernel
theorem dX12_odds_15 : decode cX12_odds 15 = .ok (.aload_n 0, 1) := by decide +kernel
theorem dX12_odds_16 : decode cX12_odds 16 = .ok (.iload_n 1, 1) := by decide +kernel
theorem dX12_odds_17 : decode cX12_odds 17 = .ok (.iload_n 2, 1) := by decide +kernel
theorem dX12_odds_18 : decode cX12_odds 18 = .ok (.invokevirtual 466, 3) := by decide +kernel
theorem dX12_odds_21 : decode cX12_odds 21 = .ok (.goto 4, 3) := by decide +kernel
theorem dX12_odds_24 : decode cX12_odds 24 = .ok (.iconst (-1), 1) := by decide +kernel
theorem dX12_odds_25 : decode cX12_odds 25 = .ok (.ireturn, 1) := by decide +kernel
theorem dX12_premium_0 : decode cX12_premium 0 = .ok (.aload_n 0, 1) := by decide +kernel
theorem dX12_premium_1 : decode cX12_premium 1 = .ok (.iload_n 1, 1) := by decide +kernel
theorem dX12_premium_2 : decode cX12_premium 2 = .ok (.invokevirtual 342, 3) := by decide +kernel
theorem dX12_premium_5 : decode cX12_premium 5 = .ok (.ifCond .eq 45, 3) := by decide +kernel
theorem dX12_premium_8 : decode cX12_premium 8 = .ok (.iload_n 2, 1) := by decide +kernel
theorem dX12_premium_9 : decode cX12_premium 9 = .ok (.invokestatic 351, 3) := by decide +kernel
theorem dX12_premium_12 : decode cX12_premium 12 = .ok (.ifCond .eq 38, 3) := by decide +kernel
theorem dX12_premium_15 : decode cX12_premium 15 = .ok (.iload_n 3, 1) := by decide +kernel
theorem dX12_premium_16 : decode cX12_premium 16 = .ok (.iconst 1, 1) := by decide +kernel
theorem dX12_premium_17 : decode cX12_premium 17 = .ok (.sipush 999, 3) := by decide +kernel
theorem dX12_premium_20 : decode cX12_premium 20 = .ok (.invokestatic 223, 3) := by decide +kernel
theorem dX12_premium_23 : decode cX12_premium 23 = .ok (.ifCond .eq 27, 3) := by decide +kernel
theorem dX12_premium_26 : decode cX12_premium 26 = .ok (.aload_n 0, 1) := by decide +kernel
theorem dX12_premium_27 : decode cX12_premium 27 = .ok (.iload_n 1, 1) := by decide +kernel
theorem dX12_premium_28 : decode cX12_premium 28 = .ok (.iload_n 2, 1) := by decide +kernel
theorem dX12_premium_29 : decode cX12_premium 29 = .ok (.invokevirtual 466, 3) := by decide +kernel
theorem dX12_premium_32 : decode cX12_premium 32 = .ok (.i2l, 1) := by decide +kernel
theorem dX12_premium_33 : decode cX12_premium 33 = .ok (.iload_n 3, 1) := by decide +kernel
theorem dX12_premium_34 : decode cX12_premium 34 = .ok (.i2l, 1) := by decide +kernel
theorem dX12_premium_35 : decode cX12_premium 35 = .ok (.lmul, 1) := by decide +kernel
theorem dX12_premium_36 : decode cX12_premium 36 = .ok (.ldc2_w 464, 3) := by decide +kernel
theorem dX12_premium_39 : decode cX12_premium 39 = .ok (.ladd, 1) := by decide +kernel
theorem dX12_premium_40 : decode cX12_premium 40 = .ok (.lconst 1, 1) := by decide +kernel
theorem dX12_premium_41 : decode cX12_premium 41 = .ok (.lsub, 1) := by decide +kernel
theorem dX12_premium_42 : decode cX12_premium 42 = .ok (.ldc2_w 464, 3) := by decide +kernel
theorem dX12_premium_45 : decode cX12_premium 45 = .ok (.ldiv, 1) := by decide +kernel
theorem dX12_premium_46 : decode cX12_premium 46 = .ok (.l2i, 1) := by decide +kernel
theorem dX12_premium_47 : decode cX12_premium 47 = .ok (.goto 4, 3) := by decide +kernel
theorem dX12_premium_50 : decode cX12_premium 50 = .ok (.iconst (-1), 1) := by decide +kernel
theorem dX12_premium_51 : decode cX12_premium 51 = .ok (.ireturn, 1) := by decide +kernel
theorem dX12_test_0 : decode cX12_test 0 = .ok (.aload_n 0, 1) := by decide +kernel
theorem dX12_test_1 : decode cX12_test 1 = .ok (.getfield 271, 3) := by decide +kernel
theorem dX12_test_4 : decode cX12_test 4 = .ok (.ifCond .eq 21, 3) := by decide +kernel
theorem dX12_test_7 : decode cX12_test 7 = .ok (.iload_n 1, 1) := by decide +kernel
theorem dX12_test_8 : decode cX12_test 8 = .ok (.iconst 0, 1) := by decide +kernel
theorem dX12_test_9 : decode cX12_test 9 = .ok (.iconst 2, 1) := by decide +kernel
theorem dX12_test_10 : decode cX12_test 10 = .ok (.invokestatic 223, 3) := by decide +kernel
theorem dX12_test_13 : decode cX12_test 13 = .ok (.ifCond .eq 12, 3) := by decide +kernel
theorem dX12_test_16 : decode cX12_test 16 = .ok (.aload_n 0, 1) := by decide +kernel
theorem dX12_test_17 : decode cX12_test 17 = .ok (.getfield 286, 3) := by decide +kernel
theorem dX12_test_20 : decode cX12_test 20 = .ok (.bipush 12, 2) := by decide +kernel
theorem dX12_test_22 : decode cX12_test 22 = .ok (.if_icmp .ne 5, 3) := by decide +kernel
theorem dX12_test_25 : decode cX12_test 25 = .ok (.iconst (-1), 1) := by decide +kernel
theorem dX12_test_26 : decode cX12_test 26 = .ok (.ireturn, 1) := by decide +kernel
theorem dX12_test_27 : decode cX12_test 27 = .ok (.aload_n 0, 1) := by decide +kernel
theorem dX12_test_28 : decode cX12_test 28 = .ok (.getfield 99, 3) := by decide +kernel
theorem dX12_test_31 : decode cX12_test 31 = .ok (.aload_n 0, 1) := by decide +kernel
theorem dX12_test_32 : decode cX12_test 32 = .ok (.getfield 286, 3) := by decide +kernel
theorem dX12_test_35 : decode cX12_test 35 = .ok (.iload_n 1, 1) := by decide +kernel
theorem dX12_test_36 : decode cX12_test 36 = .ok (.iastore, 1) := by decide +kernel
theorem dX12_test_37 : decode cX12_test 37 = .ok (.aload_n 0, 1) := by decide +kernel
theorem dX12_test_38 : decode cX12_test 38 = .ok (.getfield 102, 3) := by decide +kernel
theorem dX12_test_41 : decode cX12_test 41 = .ok (.aload_n 0, 1) := by decide +kernel
theorem dX12_test_42 : decode cX12_test 42 = .ok (.getfield 286, 3) := by decide +kernel
theorem dX12_test_45 : decode cX12_test 45 = .ok (.iload_n 2, 1) := by decide +kernel
theorem dX12_test_46 : decode cX12_test 46 = .ok (.bastore, 1) := by decide +kernel
theorem dX12_test_47 : decode cX12_test 47 = .ok (.aload_n 0, 1) := by decide +kernel
theorem dX12_test_48 : decode cX12_test 48 = .ok (.dup, 1) := by decide +kernel
theorem dX12_test_49 : decode cX12_test 49 = .ok (.getfield 286, 3) := by decide +kernel
theorem dX12_test_52 : decode cX12_test 52 = .ok (.iconst 1, 1) := by decide +kernel
theorem dX12_test_53 : decode cX12_test 53 = .ok (.iadd, 1) := by decide +kernel
theorem dX12_test_54 : decode cX12_test 54 = .ok (.putfield 286, 3) := by decide +kernel
theorem dX12_test_57 : decode cX12_test 57 = .ok (.aload_n 0, 1) := by decide +kernel
theorem dX12_test_58 : decode cX12_test 58 = .ok (.getfield 286, 3) := by decide +kernel
theorem dX12_test_61 : decode cX12_test 61 = .ok (.ireturn, 1) := by decide +kernel
theorem dX12_stroke_0 : decode cX12_stroke 0 = .ok (.aload_n 0, 1) := by decide +kernel
theorem dX12_stroke_1 : decode cX12_stroke 1 = .ok (.getfield 271, 3) := by decide +kernel
theorem dX12_stroke_4 : decode cX12_stroke 4 = .ok (.ifCond .ne 5, 3) := by decide +kernel
theorem dX12_stroke_7 : decode cX12_stroke 7 = .ok (.iconst (-1), 1) := by decide +kernel
theorem dX12_stroke_8 : decode cX12_stroke 8 = .ok (.ireturn, 1) := by decide +kernel
theorem dX12_stroke_9 : decode cX12_stroke 9 = .ok (.lconst 1, 1) := by decide +kernel
theorem dX12_stroke_10 : decode cX12_stroke 10 = .ok (.lstore_n 1, 1) := by decide +kernel
theorem dX12_stroke_11 : decode cX12_stroke 11 = .ok (.lconst 1, 1) := by decide +kernel
theorem dX12_stroke_12 : decode cX12_stroke 12 = .ok (.lstore_n 3, 1) := by decide +kernel
theorem dX12_stroke_13 : decode cX12_stroke 13 = .ok (.iconst 0, 1) := by decide +kernel
theorem dX12_stroke_14 : decode cX12_stroke 14 = .ok (.istore 5, 2) := by decide +kernel
theorem dX12_stroke_16 : decode cX12_stroke 16 = .ok (.iload 5, 2) := by decide +kernel
theorem dX12_stroke_18 : decode cX12_stroke 18 = .ok (.aload_n 0, 1) := by decide +kernel
theorem dX12_stroke_19 : decode cX12_stroke 19 = .ok (.getfield 286, 3) := by decide +kernel
theorem dX12_stroke_22 : decode cX12_stroke 22 = .ok (.if_icmp .ge 103, 3) := by decide +kernel
theorem dX12_stroke_25 : decode cX12_stroke 25 = .ok (.bipush 8, 2) := by decide +kernel
theorem dX12_stroke_27 : decode cX12_stroke 27 = .ok (.aload_n 0, 1) := by decide +kernel
theorem dX12_stroke_28 : decode cX12_stroke 28 = .ok (.getfield 99, 3) := by decide +kernel
theorem dX12_stroke_31 : decode cX12_stroke 31 = .ok (.iload 5, 2) := by decide +kernel
theorem dX12_stroke_33 : decode cX12_stroke 33 = .ok (.iaload, 1) := by decide +kernel
theorem dX12_stroke_34 : decode cX12_stroke 34 = .ok (.isub, 1) := by decide +kernel
theorem dX12_stroke_35 : decode cX12_stroke 35 = .ok (.istore 6, 2) := by decide +kernel
theorem dX12_stroke_37 : decode cX12_stroke 37 = .ok (.aload_n 0, 1) := by decide +kernel
theorem dX12_stroke_38 : decode cX12_stroke 38 = .ok (.getfield 99, 3) := by decide +kernel
theorem dX12_stroke_41 : decode cX12_stroke 41 = .ok (.iload 5, 2) := by decide +kernel
theorem dX12_stroke_43 : decode cX12_stroke 43 = .ok (.iaload, 1) := by decide +kernel
theorem dX12_stroke_44 : decode cX12_stroke 44 = .ok (.ifCond .ne 7, 3) := by decide +kernel
theorem dX12_stroke_47 : decode cX12_stroke 47 = .ok (.iconst 3, 1) := by decide +kernel
theorem dX12_stroke_48 : decode cX12_stroke 48 = .ok (.goto 19, 3) := by decide +kernel
theorem dX12_stroke_51 : decode cX12_stroke 51 = .ok (.aload_n 0, 1) := by decide +kernel
theorem dX12_stroke_52 : decode cX12_stroke 52 = .ok (.getfield 99, 3) := by decide +kernel
theorem dX12_stroke_55 : decode cX12_stroke 55 = .ok (.iload 5, 2) := by decide +kernel
theorem dX12_stroke_57 : decode cX12_stroke 57 = .ok (.iaload, 1) := by decide +kernel
theorem dX12_stroke_58 : decode cX12_stroke 58 = .ok (.iconst 1, 1) := by decide +kernel
theorem dX12_stroke_59 : decode cX12_stroke 59 = .ok (.if_icmp .ne 7, 3) := by decide +kernel
theorem dX12_stroke_62 : decode cX12_stroke 62 = .ok (.iconst 1, 1) := by decide +kernel
theorem dX12_stroke_63 : decode cX12_stroke 63 = .ok (.goto 4, 3) := by decide +kernel
theorem dX12_stroke_66 : decode cX12_stroke 66 = .ok (.iconst 5, 1) := by decide +kernel
theorem dX12_stroke_67 : decode cX12_stroke 67 = .ok (.istore 7, 2) := by decide +kernel
theorem dX12_stroke_69 : decode cX12_stroke 69 = .ok (.lload_n 1, 1) := by decide +kernel
theorem dX12_stroke_70 : decode cX12_stroke 70 = .ok (.aload_n 0, 1) := by decide +kernel
theorem dX12_stroke_71 : decode cX12_stroke 71 = .ok (.getfield 102, 3) := by decide +kernel
theorem dX12_stroke_74 : decode cX12_stroke 74 = .ok (.iload 5, 2) := by decide +kernel
theorem dX12_stroke_76 : decode cX12_stroke 76 = .ok (.baload, 1) := by decide +kernel
theorem dX12_stroke_77 : decode cX12_stroke 77 = .ok (.ifCond .eq 9, 3) := by decide +kernel
theorem dX12_stroke_80 : decode cX12_stroke 80 = .ok (.iload 6, 2) := by decide +kernel
theorem dX12_stroke_82 : decode cX12_stroke 82 = .ok (.i2l, 1) := by decide +kernel
theorem dX12_stroke_83 : decode cX12_stroke 83 = .ok (.goto 9, 3) := by decide +kernel
theorem dX12_stroke_86 : decode cX12_stroke 86 = .ok (.bipush 10, 2) := by decide +kernel
theorem dX12_stroke_88 : decode cX12_stroke 88 = .ok (.iload 6, 2) := by decide +kernel
theorem dX12_stroke_90 : decode cX12_stroke 90 = .ok (.isub, 1) := by decide +kernel
theorem dX12_stroke_91 : decode cX12_stroke 91 = .ok (.i2l, 1) := by decide +kernel
theorem dX12_stroke_92 : decode cX12_stroke 92 = .ok (.lmul, 1) := by decide +kernel
theorem dX12_stroke_93 : decode cX12_stroke 93 = .ok (.lstore_n 1, 1) := by decide +kernel
theorem dX12_stroke_94 : decode cX12_stroke 94 = .ok (.lload_n 3, 1) := by decide +kernel
theorem dX12_stroke_95 : decode cX12_stroke 95 = .ok (.aload_n 0, 1) := by decide +kernel
theorem dX12_stroke_96 : decode cX12_stroke 96 = .ok (.getfield 102, 3) := by decide +kernel
theorem dX12_stroke_99 : decode cX12_stroke 99 = .ok (.iload 5, 2) := by decide +kernel
theorem dX12_stroke_101 : decode cX12_stroke 101 = .ok (.baload, 1) := by decide +kernel
theorem dX12_stroke_102 : decode cX12_stroke 102 = .ok (.ifCond .eq 9, 3) := by decide +kernel
theorem dX12_stroke_105 : decode cX12_stroke 105 = .ok (.iload 7, 2) := by decide +kernel
theorem dX12_stroke_107 : decode cX12_stroke 107 = .ok (.i2l, 1) := by decide +kernel
theorem dX12_stroke_108 : decode cX12_stroke 108 = .ok (.goto 9, 3) := by decide +kernel
theorem dX12_stroke_111 : decode cX12_stroke 111 = .ok (.bipush 10, 2) := by decide +kernel
theorem dX12_stroke_113 : decode cX12_stroke 113 = .ok (.iload 7, 2) := by decide +kernel
theorem dX12_stroke_115 : decode cX12_stroke 115 = .ok (.isub, 1) := by decide +kernel
theorem dX12_stroke_116 : decode cX12_stroke 116 = .ok (.i2l, 1) := by decide +kernel
theorem dX12_stroke_117 : decode cX12_stroke 117 = .ok (.lmul, 1) := by decide +kernel
theorem dX12_stroke_118 : decode cX12_stroke 118 = .ok (.lstore_n 3, 1) := by decide +kernel
theorem dX12_stroke_119 : decode cX12_stroke 119 = .ok (.iinc 5 1, 3) := by decide +kernel
theorem dX12_stroke_122 : decode cX12_stroke 122 = .ok (.goto (-106), 3) := by decide +kernel
theorem dX12_stroke_125 : decode cX12_stroke 125 = .ok (.ldc2_w 200, 3) := by decide +kernel
theorem dX12_stroke_128 : decode cX12_stroke 128 = .ok (.lload_n 1, 1) := by decide +kernel
theorem dX12_stroke_129 : decode cX12_stroke 129 = .ok (.lmul, 1) := by decide +kernel
theorem dX12_stroke_130 : decode cX12_stroke 130 = .ok (.lload_n 1, 1) := by decide +kernel
theorem dX12_stroke_131 : decode cX12_stroke 131 = .ok (.lload_n 3, 1) := by decide +kernel
theorem dX12_stroke_132 : decode cX12_stroke 132 = .ok (.ladd, 1) := by decide +kernel
theorem dX12_stroke_133 : decode cX12_stroke 133 = .ok (.ldiv, 1) := by decide +kernel
theorem dX12_stroke_134 : decode cX12_stroke 134 = .ok (.l2i, 1) := by decide +kernel
theorem dX12_stroke_135 : decode cX12_stroke 135 = .ok (.ireturn, 1) := by decide +kernel
theorem dX12_far_0 : decode cX12_far 0 = .ok (.aload_n 0, 1) := by decide +kernel
theorem dX12_far_1 : decode cX12_far 1 = .ok (.iload_n 1, 1) := by decide +kernel
theorem dX12_far_2 : decode cX12_far 2 = .ok (.invokevirtual 342, 3) := by decide +kernel
theorem dX12_far_5 : decode cX12_far 5 = .ok (.ifCond .eq 20, 3) := by decide +kernel
theorem dX12_far_8 : decode cX12_far 8 = .ok (.aload_n 0, 1) := by decide +kernel
theorem dX12_far_9 : decode cX12_far 9 = .ok (.iload_n 2, 1) := by decide +kernel
theorem dX12_far_10 : decode cX12_far 10 = .ok (.invokevirtual 342, 3) := by decide +kernel
theorem dX12_far_13 : decode cX12_far 13 = .ok (.ifCond .eq 12, 3) := by decide +kernel
theorem dX12_far_16 : decode cX12_far 16 = .ok (.aload_n 0, 1) := by decide +kernel
theorem dX12_far_17 : decode cX12_far 17 = .ok (.iload_n 1, 1) := by decide +kernel
theorem dX12_far_18 : decode cX12_far 18 = .ok (.iload_n 2, 1) := by decide +kernel
theorem dX12_far_19 : decode cX12_far 19 = .ok (.invokevirtual 363, 3) := by decide +kernel
theorem dX12_far_22 : decode cX12_far 22 = .ok (.goto 4, 3) := by decide +kernel
theorem dX12_far_25 : decode cX12_far 25 = .ok (.iconst (-1), 1) := by decide +kernel
theorem dX12_far_26 : decode cX12_far 26 = .ok (.ireturn, 1) := by decide +kernel
theorem dX12_most_0 : decode cX12_most 0 = .ok (.aload_n 0, 1) := by decide +kernel
theorem dX12_most_1 : decode cX12_most 1 = .ok (.getfield 271, 3) := by decide +kernel
theorem dX12_most_4 : decode cX12_most 4 = .ok (.ifCond .eq 12, 3) := by decide +kernel
theorem dX12_most_7 : decode cX12_most 7 = .ok (.iload_n 1, 1) := by decide +kernel
theorem dX12_most_8 : decode cX12_most 8 = .ok (.iconst 0, 1) := by decide +kernel
theorem dX12_most_9 : decode cX12_most 9 = .ok (.iconst 2, 1) := by decide +kernel
theorem dX12_most_10 : decode cX12_most 10 = .ok (.invokestatic 223, 3) := by decide +kernel
theorem dX12_most_13 : decode cX12_most 13 = .ok (.ifCond .ne 5, 3) := by decide +kernel
theorem dX12_most_16 : decode cX12_most 16 = .ok (.iconst (-1), 1) := by decide +kernel
theorem dX12_most_17 : decode cX12_most 17 = .ok (.ireturn, 1) := by decide +kernel
theorem dX12_most_18 : decode cX12_most 18 = .ok (.iconst (-1), 1) := by decide +kernel
theorem dX12_most_19 : decode cX12_most 19 = .ok (.istore_n 2, 1) := by decide +kernel
theorem dX12_most_20 : decode cX12_most 20 = .ok (.iconst 0, 1) := by decide +kernel
theorem dX12_most_21 : decode cX12_most 21 = .ok (.istore_n 3, 1) := by decide +kernel
theorem dX12_most_22 : decode cX12_most 22 = .ok (.iload_n 3, 1) := by decide +kernel
theorem dX12_most_23 : decode cX12_most 23 = .ok (.aload_n 0, 1) := by decide +kernel
theorem dX12_most_24 : decode cX12_most 24 = .ok (.getfield 52, 3) := by decide +kernel
theorem dX12_most_27 : decode cX12_most 27 = .ok (.bipush 84, 2) := by decide +kernel
theorem dX12_most_29 : decode cX12_most 29 = .ok (.iaload, 1) := by decide +kernel
theorem dX12_most_30 : decode cX12_most 30 = .ok (.if_icmp .ge 48, 3) := by decide +kernel
theorem dX12_most_33 : decode cX12_most 33 = .ok (.iload_n 1, 1) := by decide +kernel
theorem dX12_most_34 : decode cX12_most 34 = .ok (.iconst 2, 1) := by decide +kernel
theorem dX12_most_35 : decode cX12_most 35 = .ok (.if_icmp .ne 43, 3) := by decide +kernel
theorem dX12_most_38 : decode cX12_most 38 = .ok (.aload_n 0, 1) := by decide +kernel
theorem dX12_most_39 : decode cX12_most 39 = .ok (.iload_n 3, 1) := by decide +kernel
theorem dX12_most_40 : decode cX12_most 40 = .ok (.invokevirtual 312, 3) := by decide +kernel
theorem dX12_most_43 : decode cX12_most 43 = .ok (.ifCond .eq 27, 3) := by decide +kernel
theorem dX12_most_46 : decode cX12_most 46 = .ok (.iload_n 2, 1) := by decide +kernel
theorem dX12_most_47 : decode cX12_most 47 = .ok (.iconst (-1), 1) := by decide +kernel
theorem dX12_most_48 : decode cX12_most 48 = .ok (.if_icmp .eq 18, 3) := by decide +kernel
theorem dX12_most_51 : decode cX12_most 51 = .ok (.aload_n 0, 1) := by decide +kernel
theorem dX12_most_52 : decode cX12_most 52 = .ok (.iload_n 3, 1) := by decide +kernel
theorem dX12_most_53 : decode cX12_most 53 = .ok (.iconst 2, 1) := by decide +kernel
theorem dX12_most_54 : decode cX12_most 54 = .ok (.invokevirtual 306, 3) := by decide +kernel
theorem dX12_most_57 : decode cX12_most 57 = .ok (.aload_n 0, 1) := by decide +kernel
theorem dX12_most_58 : decode cX12_most 58 = .ok (.iload_n 2, 1) := by decide +kernel
theorem dX12_most_59 : decode cX12_most 59 = .ok (.iconst 2, 1) := by decide +kernel
theorem dX12_most_60 : decode cX12_most 60 = .ok (.invokevirtual 306, 3) := by decide +kernel
theorem dX12_most_63 : decode cX12_most 63 = .ok (.if_icmp .le 7, 3) := by decide +kernel
theorem dX12_most_66 : decode cX12_most 66 = .ok (.iload_n 3, 1) := by decide +kernel
theorem dX12_most_67 : decode cX12_most 67 = .ok (.goto 4, 3) := by decide +kernel
theorem dX12_most_70 : decode cX12_most 70 = .ok (.iload_n 2, 1) := by decide +kernel
theorem dX12_most_71 : decode cX12_most 71 = .ok (.istore_n 2, 1) := by decide +kernel
theorem dX12_most_72 : decode cX12_most 72 = .ok (.iinc 3 1, 3) := by decide +kernel
theorem dX12_most_75 : decode cX12_most 75 = .ok (.goto (-53), 3) := by decide +kernel
theorem dX12_most_78 : decode cX12_most 78 = .ok (.iconst 0, 1) := by decide +kernel
theorem dX12_most_79 : decode cX12_most 79 = .ok (.istore_n 3, 1) := by decide +kernel
theorem dX12_most_80 : decode cX12_most 80 = .ok (.iload_n 3, 1) := by decide +kernel
theorem dX12_most_81 : decode cX12_most 81 = .ok (.aload_n 0, 1) := by decide +kernel
theorem dX12_most_82 : decode cX12_most 82 = .ok (.getfield 271, 3) := by decide +kernel
theorem dX12_most_85 : decode cX12_most 85 = .ok (.if_icmp .ge 76, 3) := by decide +kernel
theorem dX12_most_88 : decode cX12_most 88 = .ok (.iload_n 1, 1) := by decide +kernel
theorem dX12_most_89 : decode cX12_most 89 = .ok (.iconst 2, 1) := by decide +kernel
theorem dX12_most_90 : decode cX12_most 90 = .ok (.if_icmp .ge 71, 3) := by decide +kernel
theorem dX12_most_93 : decode cX12_most 93 = .ok (.iload_n 1, 1) := by decide +kernel
theorem dX12_most_94 : decode cX12_most 94 = .ok (.ifCond .ne 12, 3) := by decide +kernel
theorem dX12_most_97 : decode cX12_most 97 = .ok (.aload_n 0, 1) := by decide +kernel
theorem dX12_most_98 : decode cX12_most 98 = .ok (.iload_n 3, 1) := by decide +kernel
theorem dX12_most_99 : decode cX12_most 99 = .ok (.iconst 1, 1) := by decide +kernel
theorem dX12_most_100 : decode cX12_most 100 = .ok (.invokevirtual 277, 3) := by decide +kernel
theorem dX12_most_103 : decode cX12_most 103 = .ok (.goto 12, 3) := by decide +kernel
theorem dX12_most_106 : decode cX12_most 106 = .ok (.aload_n 0, 1) := by decide +kernel
theorem dX12_most_107 : decode cX12_most 107 = .ok (.getfield 52, 3) := by decide +kernel
theorem dX12_most_110 : decode cX12_most 110 = .ok (.bipush 8, 2) := by decide +kernel
theorem dX12_most_112 : decode cX12_most 112 = .ok (.iload_n 3, 1) := by decide +kernel
theorem dX12_most_113 : decode cX12_most 113 = .ok (.iadd, 1) := by decide +kernel
theorem dX12_most_114 : decode cX12_most 114 = .ok (.iaload, 1) := by decide +kernel
theorem dX12_most_115 : decode cX12_most 115 = .ok (.istore 4, 2) := by decide +kernel
theorem dX12_most_117 : decode cX12_most 117 = .ok (.iload_n 2, 1) := by decide +kernel
theorem dX12_most_118 : decode cX12_most 118 = .ok (.iconst (-1), 1) := by decide +kernel
theorem dX12_most_119 : decode cX12_most 119 = .ok (.if_icmp .eq 30, 3) := by decide +kernel
theorem dX12_most_122 : decode cX12_most 122 = .ok (.iload 4, 2) := by decide +kernel
theorem dX12_most_124 : decode cX12_most 124 = .ok (.iload_n 1, 1) := by decide +kernel
theorem dX12_most_125 : decode cX12_most 125 = .ok (.ifCond .ne 12, 3) := by decide +kernel
theorem dX12_most_128 : decode cX12_most 128 = .ok (.aload_n 0, 1) := by decide +kernel
theorem dX12_most_129 : decode cX12_most 129 = .ok (.iload_n 2, 1) := by decide +kernel
theorem dX12_most_130 : decode cX12_most 130 = .ok (.iconst 1, 1) := by decide +kernel
theorem dX12_most_131 : decode cX12_most 131 = .ok (.invokevirtual 277, 3) := by decide +kernel
theorem dX12_most_134 : decode cX12_most 134 = .ok (.goto 12, 3) := by decide +kernel
theorem dX12_most_137 : decode cX12_most 137 = .ok (.aload_n 0, 1) := by decide +kernel
theorem dX12_most_138 : decode cX12_most 138 = .ok (.getfield 52, 3) := by decide +kernel
theorem dX12_most_141 : decode cX12_most 141 = .ok (.bipush 8, 2) := by decide +kernel
theorem dX12_most_143 : decode cX12_most 143 = .ok (.iload_n 2, 1) := by decide +kernel
theorem dX12_most_144 : decode cX12_most 144 = .ok (.iadd, 1) := by decide +kernel
theorem dX12_most_145 : decode cX12_most 145 = .ok (.iaload, 1) := by decide +kernel
theorem dX12_most_146 : decode cX12_most 146 = .ok (.if_icmp .le 7, 3) := by decide +kernel
theorem dX12_most_149 : decode cX12_most 149 = .ok (.iload_n 3, 1) := by decide +kernel
theorem dX12_most_150 : decode cX12_most 150 = .ok (.goto 4, 3) := by decide +kernel
theorem dX12_most_153 : decode cX12_most 153 = .ok (.iload_n 2, 1) := by decide +kernel
theorem dX12_most_154 : decode cX12_most 154 = .ok (.istore_n 2, 1) := by decide +kernel
theorem dX12_most_155 : decode cX12_most 155 = .ok (.iinc 3 1, 3) := by decide +kernel
theorem dX12_most_158 : decode cX12_most 158 = .ok (.goto (-78), 3) := by decide +kernel
theorem dX12_most_161 : decode cX12_most 161 = .ok (.iload_n 2, 1) := by decide +kernel
theorem dX12_most_162 : decode cX12_most 162 = .ok (.ireturn, 1) := by decide +kernel
theorem dX12_image_0 : decode cX12_image 0 = .ok (.aload_n 0, 1) := by decide +kernel
theorem dX12_image_1 : decode cX12_image 1 = .ok (.getfield 271, 3) := by decide +kernel
theorem dX12_image_4 : decode cX12_image 4 = .ok (.ifCond .ne 5, 3) := by decide +kernel
theorem dX12_image_7 : decode cX12_image 7 = .ok (.iconst (-1), 1) := by decide +kernel
theorem dX12_image_8 : decode cX12_image 8 = .ok (.ireturn, 1) := by decide +kernel
theorem dX12_image_9 : decode cX12_image 9 = .ok (.iconst 0, 1) := by decide +kernel
theorem dX12_image_10 : decode cX12_image 10 = .ok (.istore_n 1, 1) := by decide +kernel
theorem dX12_image_11 : decode cX12_image 11 = .ok (.iload_n 1, 1) := by decide +kernel
theorem dX12_image_12 : decode cX12_image 12 = .ok (.sipush 268, 3) := by decide +kernel
theorem dX12_image_15 : decode cX12_image 15 = .ok (.if_icmp .ge 21, 3) := by decide +kernel
theorem dX12_image_18 : decode cX12_image 18 = .ok (.aload_n 0, 1) := by decide +kernel
theorem dX12_image_19 : decode cX12_image 19 = .ok (.getfield 105, 3) := by decide +kernel
theorem dX12_image_22 : decode cX12_image 22 = .ok (.iload_n 1, 1) := by decide +kernel
theorem dX12_image_23 : decode cX12_image 23 = .ok (.aload_n 0, 1) := by decide +kernel
theorem dX12_image_24 : decode cX12_image 24 = .ok (.getfield 52, 3) := by decide +kernel
theorem dX12_image_27 : decode cX12_image 27 = .ok (.iload_n 1, 1) := by decide +kernel
theorem dX12_image_28 : decode cX12_image 28 = .ok (.iaload, 1) := by decide +kernel
theorem dX12_image_29 : decode cX12_image 29 = .ok (.iastore, 1) := by decide +kernel
theorem dX12_image_30 : decode cX12_image 30 = .ok (.iinc 1 1, 3) := by decide +kernel
theorem dX12_image_33 : decode cX12_image 33 = .ok (.goto (-22), 3) := by decide +kernel
theorem dX12_image_36 : decode cX12_image 36 = .ok (.aload_n 0, 1) := by decide +kernel
theorem dX12_image_37 : decode cX12_image 37 = .ok (.iconst 1, 1) := by decide +kernel
theorem dX12_image_38 : decode cX12_image 38 = .ok (.putfield 292, 3) := by decide +kernel
theorem dX12_image_41 : decode cX12_image 41 = .ok (.aload_n 0, 1) := by decide +kernel
theorem dX12_image_42 : decode cX12_image 42 = .ok (.getfield 52, 3) := by decide +kernel
theorem dX12_image_45 : decode cX12_image 45 = .ok (.bipush 86, 2) := by decide +kernel
theorem dX12_image_47 : decode cX12_image 47 = .ok (.iaload, 1) := by decide +kernel
theorem dX12_image_48 : decode cX12_image 48 = .ok (.ireturn, 1) := by decide +kernel
theorem dX12_back_0 : decode cX12_back 0 = .ok (.aload_n 0, 1) := by decide +kernel
theorem dX12_back_1 : decode cX12_back 1 = .ok (.getfield 292, 3) := by decide +kernel
theorem dX12_back_4 : decode cX12_back 4 = .ok (.ifCond .ne 5, 3) := by decide +kernel
theorem dX12_back_7 : decode cX12_back 7 = .ok (.iconst (-1), 1) := by decide +kernel
theorem dX12_back_8 : decode cX12_back 8 = .ok (.ireturn, 1) := by decide +kernel
theorem dX12_back_9 : decode cX12_back 9 = .ok (.iconst 0, 1) := by decide +kernel
theorem dX12_back_10 : decode cX12_back 10 = .ok (.istore_n 1, 1) := by decide +kernel
theorem dX12_back_11 : decode cX12_back 11 = .ok (.iload_n 1, 1) := by decide +kernel
theorem dX12_back_12 : decode cX12_back 12 = .ok (.sipush 268, 3) := by decide +kernel
theorem dX12_back_15 : decode cX12_back 15 = .ok (.if_icmp .ge 21, 3) := by decide +kernel
theorem dX12_back_18 : decode cX12_back 18 = .ok (.aload_n 0, 1) := by decide +kernel
theorem dX12_back_19 : decode cX12_back 19 = .ok (.getfield 52, 3) := by decide +kernel
theorem dX12_back_22 : decode cX12_back 22 = .ok (.iload_n 1, 1) := by decide +kernel
theorem dX12_back_23 : decode cX12_back 23 = .ok (.aload_n 0, 1) := by decide +kernel
theorem dX12_back_24 : decode cX12_back 24 = .ok (.getfield 105, 3) := by decide +kernel
theorem dX12_back_27 : decode cX12_back 27 = .ok (.iload_n 1, 1) := by decide +kernel
theorem dX12_back_28 : decode cX12_back 28 = .ok (.iaload, 1) := by decide +kernel
theorem dX12_back_29 : decode cX12_back 29 = .ok (.iastore, 1) := by decide +kernel
theorem dX12_back_30 : decode cX12_back 30 = .ok (.iinc 1 1, 3) := by decide +kernel
theorem dX12_back_33 : decode cX12_back 33 = .ok (.goto (-22), 3) := by decide +kernel
theorem dX12_back_36 : decode cX12_back 36 = .ok (.aload_n 0, 1) := by decide +kernel
theorem dX12_back_37 : decode cX12_back 37 = .ok (.iconst 0, 1) := by decide +kernel
theorem dX12_back_38 : decode cX12_back 38 = .ok (.putfield 289, 3) := by decide +kernel
theorem dX12_back_41 : decode cX12_back 41 = .ok (.aload_n 0, 1) := by decide +kernel
theorem dX12_back_42 : decode cX12_back 42 = .ok (.getfield 52, 3) := by decide +kernel
theorem dX12_back_45 : decode cX12_back 45 = .ok (.bipush 86, 2) := by decide +kernel
theorem dX12_back_47 : decode cX12_back 47 = .ok (.iaload, 1) := by decide +kernel
theorem dX12_back_48 : decode cX12_back 48 = .ok (.ireturn, 1) := by decide +kernel
theorem dX12_count_0 : decode cX12_count 0 = .ok (.iload_n 1, 1) := by decide +kernel
theorem dX12_count_1 : decode cX12_count 1 = .ok (.tableswitch 162 0 14 #[75, 80, 88, 93, 98, 103, 111, 119, 124, 129, 134, 139, 144, 149, 157], 75) := by decide +kernel
theorem dX12_count_76 : decode cX12_count 76 = .ok (.aload_n 0, 1) := by decide +kernel
theorem dX12_count_77 : decode cX12_count 77 = .ok (.getfield 271, 3) := by decide +kernel
theorem dX12_count_80 : decode cX12_count 80 = .ok (.ireturn, 1) := by decide +kernel
theorem dX12_count_81 : decode cX12_count 81 = .ok (.aload_n 0, 1) := by decide +kernel
theorem dX12_count_82 : decode cX12_count 82 = .ok (.getfield 52, 3) := by decide +kernel
theorem dX12_count_85 : decode cX12_count 85 = .ok (.bipush 84, 2) := by decide +kernel
theorem dX12_count_87 : decode cX12_count 87 = .ok (.iaload, 1) := by decide +kernel
theorem dX12_count_88 : decode cX12_count 88 = .ok (.ireturn, 1) := by decide +kernel
theorem dX12_count_89 : decode cX12_count 89 = .ok (.aload_n 0, 1) := by decide +kernel
theorem dX12_count_90 : decode cX12_count 90 = .ok (.getfield 299, 3) := by decide +kernel
theorem dX12_count_93 : decode cX12_count 93 = .ok (.ireturn, 1) := by decide +kernel
theorem dX12_count_94 : decode cX12_count 94 = .ok (.aload_n 0, 1) := by decide +kernel
theorem dX12_count_95 : decode cX12_count 95 = .ok (.getfield 115, 3) := by decide +kernel
theorem dX12_count_98 : decode cX12_count 98 = .ok (.ireturn, 1) := by decide +kernel
theorem dX12_count_99 : decode cX12_count 99 = .ok (.aload_n 0, 1) := by decide +kernel
theorem dX12_count_100 : decode cX12_count 100 = .ok (.getfield 58, 3) := by decide +kernel
theorem dX12_count_103 : decode cX12_count 103 = .ok (.ireturn, 1) := by decide +kernel
theorem dX12_count_104 : decode cX12_count 104 = .ok (.aload_n 0, 1) := by decide +kernel
theorem dX12_count_105 : decode cX12_count 105 = .ok (.getfield 52, 3) := by decide +kernel
theorem dX12_count_108 : decode cX12_count 108 = .ok (.bipush 86, 2) := by decide +kernel
theorem dX12_count_110 : decode cX12_count 110 = .ok (.iaload, 1) := by decide +kernel
theorem dX12_count_111 : decode cX12_count 111 = .ok (.ireturn, 1) := by decide +kernel
theorem dX12_count_112 : decode cX12_count 112 = .ok (.aload_n 0, 1) := by decide +kernel
theorem dX12_count_113 : decode cX12_count 113 = .ok (.getfield 52, 3) := by decide +kernel
theorem dX12_count_116 : decode cX12_count 116 = .ok (.bipush 85, 2) := by decide +kernel
theorem dX12_count_118 : decode cX12_count 118 = .ok (.iaload, 1) := by decide +kernel
theorem dX12_count_119 : decode cX12_count 119 = .ok (.ireturn, 1) := by decide +kernel
theorem dX12_count_120 : decode cX12_count 120 = .ok (.aload_n 0, 1) := by decide +kernel
theorem dX12_count_121 : decode cX12_count 121 = .ok (.getfield 274, 3) := by decide +kernel
theorem dX12_count_124 : decode cX12_count 124 = .ok (.ireturn, 1) := by decide +kernel
theorem dX12_count_125 : decode cX12_count 125 = .ok (.aload_n 0, 1) := by decide +kernel
theorem dX12_count_126 : decode cX12_count 126 = .ok (.invokevirtual 443, 3) := by decide +kernel
theorem dX12_count_129 : decode cX12_count 129 = .ok (.ireturn, 1) := by decide +kernel
theorem dX12_count_130 : decode cX12_count 130 = .ok (.aload_n 0, 1) := by decide +kernel
theorem dX12_count_131 : decode cX12_count 131 = .ok (.getfield 62, 3) := by decide +kernel
theorem dX12_count_134 : decode cX12_count 134 = .ok (.ireturn, 1) := by decide +kernel
theorem dX12_count_135 : decode cX12_count 135 = .ok (.aload_n 0, 1) := by decide +kernel
theorem dX12_count_136 : decode cX12_count 136 = .ok (.getfield 384, 3) := by decide +kernel
theorem dX12_count_139 : decode cX12_count 139 = .ok (.ireturn, 1) := by decide +kernel
theorem dX12_count_140 : decode cX12_count 140 = .ok (.aload_n 0, 1) := by decide +kernel
theorem dX12_count_141 : decode cX12_count 141 = .ok (.getfield 283, 3) := by decide +kernel
theorem dX12_count_144 : decode cX12_count 144 = .ok (.ireturn, 1) := by decide +kernel
theorem dX12_count_145 : decode cX12_count 145 = .ok (.aload_n 0, 1) := by decide +kernel
theorem dX12_count_146 : decode cX12_count 146 = .ok (.getfield 286, 3) := by decide +kernel
theorem dX12_count_149 : decode cX12_count 149 = .ok (.ireturn, 1) := by decide +kernel
theorem dX12_count_150 : decode cX12_count 150 = .ok (.aload_n 0, 1) := by decide +kernel
theorem dX12_count_151 : decode cX12_count 151 = .ok (.getfield 52, 3) := by decide +kernel
theorem dX12_count_154 : decode cX12_count 154 = .ok (.bipush 87, 2) := by decide +kernel
theorem dX12_count_156 : decode cX12_count 156 = .ok (.iaload, 1) := by decide +kernel
theorem dX12_count_157 : decode cX12_count 157 = .ok (.ireturn, 1) := by decide +kernel
theorem dX12_count_158 : decode cX12_count 158 = .ok (.aload_n 0, 1) := by decide +kernel
theorem dX12_count_159 : decode cX12_count 159 = .ok (.getfield 289, 3) := by decide +kernel
theorem dX12_count_162 : decode cX12_count 162 = .ok (.ireturn, 1) := by decide +kernel
theorem dX12_count_163 : decode cX12_count 163 = .ok (.ldc_w 453, 3) := by decide +kernel
theorem dX12_count_166 : decode cX12_count 166 = .ok (.ireturn, 1) := by decide +kernel
