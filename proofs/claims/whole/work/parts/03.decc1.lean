theorem dX12_in_0 : decode cX12_in 0 = .ok (.iload_n 0, 1) := by decide +kernel
theorem dX12_in_1 : decode cX12_in 1 = .ok (.iload_n 1, 1) := by decide +kernel
theorem dX12_in_2 : decode cX12_in 2 = .ok (.if_icmp .lt 12, 3) := by decide +kernel
theorem dX12_in_5 : decode cX12_in 5 = .ok (.iload_n 0, 1) := by decide +kernel
theorem dX12_in_6 : decode cX12_in 6 = .ok (.iload_n 2, 1) := by decide +kernel
theorem dX12_in_7 : decode cX12_in 7 = .ok (.if_icmp .gt 7, 3) := by decide +kernel
theorem dX12_in_10 : decode cX12_in 10 = .ok (.iconst 1, 1) := by decide +kernel
theorem dX12_in_11 : decode cX12_in 11 = .ok (.goto 4, 3) := by decide +kernel
theorem dX12_in_14 : decode cX12_in 14 = .ok (.iconst 0, 1) := by decide +kernel
theorem dX12_in_15 : decode cX12_in 15 = .ok (.ireturn, 1) := by decide +kernel
theorem dX12_has_0 : decode cX12_has 0 = .ok (.iload_n 0, 1) := by decide +kernel
theorem dX12_has_1 : decode cX12_has 1 = .ok (.iload_n 1, 1) := by decide +kernel
theorem dX12_has_2 : decode cX12_has 2 = .ok (.ishr, 1) := by decide +kernel
theorem dX12_has_3 : decode cX12_has 3 = .ok (.iconst 1, 1) := by decide +kernel
theorem dX12_has_4 : decode cX12_has 4 = .ok (.iand, 1) := by decide +kernel
theorem dX12_has_5 : decode cX12_has 5 = .ok (.iconst 1, 1) := by decide +kernel
theorem dX12_has_6 : decode cX12_has 6 = .ok (.if_icmp .ne 7, 3) := by decide +kernel
theorem dX12_has_9 : decode cX12_has 9 = .ok (.iconst 1, 1) := by decide +kernel
theorem dX12_has_10 : decode cX12_has 10 = .ok (.goto 4, 3) := by decide +kernel
theorem dX12_has_13 : decode cX12_has 13 = .ok (.iconst 0, 1) := by decide +kernel
theorem dX12_has_14 : decode cX12_has 14 = .ok (.ireturn, 1) := by decide +kernel
theorem dX12_init_0 : decode cX12_init 0 = .ok (.aload_n 0, 1) := by decide +kernel
theorem dX12_init_1 : decode cX12_init 1 = .ok (.invokespecial 3, 3) := by decide +kernel
theorem dX12_init_4 : decode cX12_init 4 = .ok (.aload_n 0, 1) := by decide +kernel
theorem dX12_init_5 : decode cX12_init 5 = .ok (.sipush 240, 3) := by decide +kernel
theorem dX12_init_8 : decode cX12_init 8 = .ok (.newarray .int, 2) := by decide +kernel
theorem dX12_init_10 : decode cX12_init 10 = .ok (.putfield 9, 3) := by decide +kernel
theorem dX12_init_13 : decode cX12_init 13 = .ok (.aload_n 0, 1) := by decide +kernel
theorem dX12_init_14 : decode cX12_init 14 = .ok (.sipush 2600, 3) := by decide +kernel
theorem dX12_init_17 : decode cX12_init 17 = .ok (.newarray .int, 2) := by decide +kernel
theorem dX12_init_19 : decode cX12_init 19 = .ok (.putfield 13, 3) := by decide +kernel
theorem dX12_init_22 : decode cX12_init 22 = .ok (.aload_n 0, 1) := by decide +kernel
theorem dX12_init_23 : decode cX12_init 23 = .ok (.sipush 2600, 3) := by decide +kernel
theorem dX12_init_26 : decode cX12_init 26 = .ok (.newarray .int, 2) := by decide +kernel
theorem dX12_init_28 : decode cX12_init 28 = .ok (.putfield 16, 3) := by decide +kernel
theorem dX12_init_31 : decode cX12_init 31 = .ok (.aload_n 0, 1) := by decide +kernel
theorem dX12_init_32 : decode cX12_init 32 = .ok (.iconst 5, 1) := by decide +kernel
theorem dX12_init_33 : decode cX12_init 33 = .ok (.newarray .int, 2) := by decide +kernel
theorem dX12_init_35 : decode cX12_init 35 = .ok (.putfield 19, 3) := by decide +kernel
theorem dX12_init_38 : decode cX12_init 38 = .ok (.aload_n 0, 1) := by decide +kernel
theorem dX12_init_39 : decode cX12_init 39 = .ok (.iconst 5, 1) := by decide +kernel
theorem dX12_init_40 : decode cX12_init 40 = .ok (.newarray .int, 2) := by decide +kernel
theorem dX12_init_42 : decode cX12_init 42 = .ok (.putfield 22, 3) := by decide +kernel
theorem dX12_init_45 : decode cX12_init 45 = .ok (.aload_n 0, 1) := by decide +kernel
theorem dX12_init_46 : decode cX12_init 46 = .ok (.sipush 700, 3) := by decide +kernel
theorem dX12_init_49 : decode cX12_init 49 = .ok (.newarray .int, 2) := by decide +kernel
theorem dX12_init_51 : decode cX12_init 51 = .ok (.putfield 25, 3) := by decide +kernel
theorem dX12_init_54 : decode cX12_init 54 = .ok (.aload_n 0, 1) := by decide +kernel
theorem dX12_init_55 : decode cX12_init 55 = .ok (.sipush 700, 3) := by decide +kernel
theorem dX12_init_58 : decode cX12_init 58 = .ok (.newarray .int, 2) := by decide +kernel
theorem dX12_init_60 : decode cX12_init 60 = .ok (.putfield 28, 3) := by decide +kernel
theorem dX12_init_63 : decode cX12_init 63 = .ok (.aload_n 0, 1) := by decide +kernel
theorem dX12_init_64 : decode cX12_init 64 = .ok (.sipush 700, 3) := by decide +kernel
theorem dX12_init_67 : decode cX12_init 67 = .ok (.newarray .int, 2) := by decide +kernel
theorem dX12_init_69 : decode cX12_init 69 = .ok (.putfield 31, 3) := by decide +kernel
theorem dX12_init_72 : decode cX12_init 72 = .ok (.aload_n 0, 1) := by decide +kernel
theorem dX12_init_73 : decode cX12_init 73 = .ok (.bipush 6, 2) := by decide +kernel
theorem dX12_init_75 : decode cX12_init 75 = .ok (.newarray .int, 2) := by decide +kernel
theorem dX12_init_77 : decode cX12_init 77 = .ok (.putfield 34, 3) := by decide +kernel
theorem dX12_init_80 : decode cX12_init 80 = .ok (.aload_n 0, 1) := by decide +kernel
theorem dX12_init_81 : decode cX12_init 81 = .ok (.bipush 80, 2) := by decide +kernel
theorem dX12_init_83 : decode cX12_init 83 = .ok (.newarray .int, 2) := by decide +kernel
theorem dX12_init_85 : decode cX12_init 85 = .ok (.putfield 37, 3) := by decide +kernel
theorem dX12_init_88 : decode cX12_init 88 = .ok (.aload_n 0, 1) := by decide +kernel
theorem dX12_init_89 : decode cX12_init 89 = .ok (.iconst 2, 1) := by decide +kernel
theorem dX12_init_90 : decode cX12_init 90 = .ok (.newarray .int, 2) := by decide +kernel
theorem dX12_init_92 : decode cX12_init 92 = .ok (.putfield 40, 3) := by decide +kernel
theorem dX12_init_95 : decode cX12_init 95 = .ok (.aload_n 0, 1) := by decide +kernel
theorem dX12_init_96 : decode cX12_init 96 = .ok (.bipush 32, 2) := by decide +kernel
theorem dX12_init_98 : decode cX12_init 98 = .ok (.newarray .int, 2) := by decide +kernel
theorem dX12_init_100 : decode cX12_init 100 = .ok (.putfield 43, 3) := by decide +kernel
theorem dX12_init_103 : decode cX12_init 103 = .ok (.aload_n 0, 1) := by decide +kernel
theorem dX12_init_104 : decode cX12_init 104 = .ok (.bipush 24, 2) := by decide +kernel
theorem dX12_init_106 : decode cX12_init 106 = .ok (.newarray .int, 2) := by decide +kernel
theorem dX12_init_108 : decode cX12_init 108 = .ok (.putfield 46, 3) := by decide +kernel
theorem dX12_init_111 : decode cX12_init 111 = .ok (.aload_n 0, 1) := by decide +kernel
theorem dX12_init_112 : decode cX12_init 112 = .ok (.bipush 32, 2) := by decide +kernel
theorem dX12_init_114 : decode cX12_init 114 = .ok (.newarray .int, 2) := by decide +kernel
theorem dX12_init_116 : decode cX12_init 116 = .ok (.putfield 49, 3) := by decide +kernel
theorem dX12_init_119 : decode cX12_init 119 = .ok (.aload_n 0, 1) := by decide +kernel
theorem dX12_init_120 : decode cX12_init 120 = .ok (.sipush 268, 3) := by decide +kernel
theorem dX12_init_123 : decode cX12_init 123 = .ok (.newarray .int, 2) := by decide +kernel
theorem dX12_init_125 : decode cX12_init 125 = .ok (.putfield 52, 3) := by decide +kernel
theorem dX12_init_128 : decode cX12_init 128 = .ok (.aload_n 0, 1) := by decide +kernel
theorem dX12_init_129 : decode cX12_init 129 = .ok (.iconst 5, 1) := by decide +kernel
theorem dX12_init_130 : decode cX12_init 130 = .ok (.newarray .int, 2) := by decide +kernel
theorem dX12_init_132 : decode cX12_init 132 = .ok (.putfield 55, 3) := by decide +kernel
theorem dX12_init_135 : decode cX12_init 135 = .ok (.aload_n 0, 1) := by decide +kernel
theorem dX12_init_136 : decode cX12_init 136 = .ok (.iconst (-1), 1) := by decide +kernel
theorem dX12_init_137 : decode cX12_init 137 = .ok (.putfield 58, 3) := by decide +kernel
theorem dX12_init_140 : decode cX12_init 140 = .ok (.aload_n 0, 1) := by decide +kernel
theorem dX12_init_141 : decode cX12_init 141 = .ok (.iconst 5, 1) := by decide +kernel
theorem dX12_init_142 : decode cX12_init 142 = .ok (.putfield 62, 3) := by decide +kernel
theorem dX12_init_145 : decode cX12_init 145 = .ok (.aload_n 0, 1) := by decide +kernel
theorem dX12_init_146 : decode cX12_init 146 = .ok (.bipush 36, 2) := by decide +kernel
theorem dX12_init_148 : decode cX12_init 148 = .ok (.newarray .int, 2) := by decide +kernel
theorem dX12_init_150 : decode cX12_init 150 = .ok (.putfield 65, 3) := by decide +kernel
theorem dX12_init_153 : decode cX12_init 153 = .ok (.aload_n 0, 1) := by decide +kernel
theorem dX12_init_154 : decode cX12_init 154 = .ok (.bipush 36, 2) := by decide +kernel
theorem dX12_init_156 : decode cX12_init 156 = .ok (.newarray .int, 2) := by decide +kernel
theorem dX12_init_158 : decode cX12_init 158 = .ok (.putfield 68, 3) := by decide +kernel
theorem dX12_init_161 : decode cX12_init 161 = .ok (.aload_n 0, 1) := by decide +kernel
theorem dX12_init_162 : decode cX12_init 162 = .ok (.bipush 36, 2) := by decide +kernel
theorem dX12_init_164 : decode cX12_init 164 = .ok (.newarray .int, 2) := by decide +kernel
theorem dX12_init_166 : decode cX12_init 166 = .ok (.putfield 71, 3) := by decide +kernel
theorem dX12_init_169 : decode cX12_init 169 = .ok (.aload_n 0, 1) := by decide +kernel
theorem dX12_init_170 : decode cX12_init 170 = .ok (.bipush 8, 2) := by decide +kernel
theorem dX12_init_172 : decode cX12_init 172 = .ok (.newarray .int, 2) := by decide +kernel
theorem dX12_init_174 : decode cX12_init 174 = .ok (.putfield 74, 3) := by decide +kernel
theorem dX12_init_177 : decode cX12_init 177 = .ok (.aload_n 0, 1) := by decide +kernel
theorem dX12_init_178 : decode cX12_init 178 = .ok (.sipush 10720, 3) := by decide +kernel
theorem dX12_init_181 : decode cX12_init 181 = .ok (.newarray .int, 2) := by decide +kernel
theorem dX12_init_183 : decode cX12_init 183 = .ok (.putfield 77, 3) := by decide +kernel
theorem dX12_init_186 : decode cX12_init 186 = .ok (.aload_n 0, 1) := by decide +kernel
theorem dX12_init_187 : decode cX12_init 187 = .ok (.bipush 8, 2) := by decide +kernel
theorem dX12_init_189 : decode cX12_init 189 = .ok (.newarray .int, 2) := by decide +kernel
theorem dX12_init_191 : decode cX12_init 191 = .ok (.putfield 80, 3) := by decide +kernel
theorem dX12_init_194 : decode cX12_init 194 = .ok (.aload_n 0, 1) := by decide +kernel
theorem dX12_init_195 : decode cX12_init 195 = .ok (.bipush 10, 2) := by decide +kernel
theorem dX12_init_197 : decode cX12_init 197 = .ok (.newarray .int, 2) := by decide +kernel
theorem dX12_init_199 : decode cX12_init 199 = .ok (.putfield 83, 3) := by decide +kernel
theorem dX12_init_202 : decode cX12_init 202 = .ok (.aload_n 0, 1) := by decide +kernel
theorem dX12_init_203 : decode cX12_init 203 = .ok (.bipush 10, 2) := by decide +kernel
theorem dX12_init_205 : decode cX12_init 205 = .ok (.newarray .int, 2) := by decide +kernel
theorem dX12_init_207 : decode cX12_init 207 = .ok (.putfield 86, 3) := by decide +kernel
theorem dX12_init_210 : decode cX12_init 210 = .ok (.aload_n 0, 1) := by decide +kernel
theorem dX12_init_211 : decode cX12_init 211 = .ok (.bipush 10, 2) := by decide +kernel
theorem dX12_init_213 : decode cX12_init 213 = .ok (.newarray .int, 2) := by decide +kernel
theorem dX12_init_215 : decode cX12_init 215 = .ok (.putfield 89, 3) := by decide +kernel
theorem dX12_init_218 : decode cX12_init 218 = .ok (.aload_n 0, 1) := by decide +kernel
theorem dX12_init_219 : decode cX12_init 219 = .ok (.bipush 10, 2) := by decide +kernel
theorem dX12_init_221 : decode cX12_init 221 = .ok (.newarray .boolean, 2) := by decide +kernel
theorem dX12_init_223 : decode cX12_init 223 = .ok (.putfield 92, 3) := by decide +kernel
theorem dX12_init_226 : decode cX12_init 226 = .ok (.aload_n 0, 1) := by decide +kernel
theorem dX12_init_227 : decode cX12_init 227 = .ok (.bipush 8, 2) := by decide +kernel
theorem dX12_init_229 : decode cX12_init 229 = .ok (.newarray .int, 2) := by decide +kernel
theorem dX12_init_231 : decode cX12_init 231 = .ok (.putfield 96, 3) := by decide +kernel
theorem dX12_init_234 : decode cX12_init 234 = .ok (.aload_n 0, 1) := by decide +kernel
theorem dX12_init_235 : decode cX12_init 235 = .ok (.bipush 12, 2) := by decide +kernel
theorem dX12_init_237 : decode cX12_init 237 = .ok (.newarray .int, 2) := by decide +kernel
theorem dX12_init_239 : decode cX12_init 239 = .ok (.putfield 99, 3) := by decide +kernel
theorem dX12_init_242 : decode cX12_init 242 = .ok (.aload_n 0, 1) := by decide +kernel
theorem dX12_init_243 : decode cX12_init 243 = .ok (.bipush 12, 2) := by decide +kernel
theorem dX12_init_245 : decode cX12_init 245 = .ok (.newarray .boolean, 2) := by decide +kernel
theorem dX12_init_247 : decode cX12_init 247 = .ok (.putfield 102, 3) := by decide +kernel
theorem dX12_init_250 : decode cX12_init 250 = .ok (.aload_n 0, 1) := by decide +kernel
theorem dX12_init_251 : decode cX12_init 251 = .ok (.sipush 268, 3) := by decide +kernel
theorem dX12_init_254 : decode cX12_init 254 = .ok (.newarray .int, 2) := by decide +kernel
theorem dX12_init_256 : decode cX12_init 256 = .ok (.putfield 105, 3) := by decide +kernel
theorem dX12_init_259 : decode cX12_init 259 = .ok (.return_, 1) := by decide +kernel
theorem dX12_thrown_0 : decode cX12_thrown 0 = .ok (.aload_n 0, 1) := by decide +kernel
theorem dX12_thrown_1 : decode cX12_thrown 1 = .ok (.getfield 108, 3) := by decide +kernel
theorem dX12_thrown_4 : decode cX12_thrown 4 = .ok (.ireturn, 1) := by decide +kernel
theorem dX12_byteOf_0 : decode cX12_byteOf 0 = .ok (.iload 5, 2) := by decide +kernel
theorem dX12_byteOf_2 : decode cX12_byteOf 2 = .ok (.iconst 4, 1) := by decide +kernel
theorem dX12_byteOf_3 : decode cX12_byteOf 3 = .ok (.if_icmp .ge 7, 3) := by decide +kernel
theorem dX12_byteOf_6 : decode cX12_byteOf 6 = .ok (.iload_n 0, 1) := by decide +kernel
theorem dX12_byteOf_7 : decode cX12_byteOf 7 = .ok (.goto 38, 3) := by decide +kernel
theorem dX12_byteOf_10 : decode cX12_byteOf 10 = .ok (.iload 5, 2) := by decide +kernel
theorem dX12_byteOf_12 : decode cX12_byteOf 12 = .ok (.bipush 8, 2) := by decide +kernel
theorem dX12_byteOf_14 : decode cX12_byteOf 14 = .ok (.if_icmp .ge 7, 3) := by decide +kernel
theorem dX12_byteOf_17 : decode cX12_byteOf 17 = .ok (.iload_n 1, 1) := by decide +kernel
theorem dX12_byteOf_18 : decode cX12_byteOf 18 = .ok (.goto 27, 3) := by decide +kernel
theorem dX12_byteOf_21 : decode cX12_byteOf 21 = .ok (.iload 5, 2) := by decide +kernel
theorem dX12_byteOf_23 : decode cX12_byteOf 23 = .ok (.bipush 12, 2) := by decide +kernel
theorem dX12_byteOf_25 : decode cX12_byteOf 25 = .ok (.if_icmp .ge 7, 3) := by decide +kernel
theorem dX12_byteOf_28 : decode cX12_byteOf 28 = .ok (.iload_n 2, 1) := by decide +kernel
theorem dX12_byteOf_29 : decode cX12_byteOf 29 = .ok (.goto 16, 3) := by decide +kernel
theorem dX12_byteOf_32 : decode cX12_byteOf 32 = .ok (.iload 5, 2) := by decide +kernel
theorem dX12_byteOf_34 : decode cX12_byteOf 34 = .ok (.bipush 16, 2) := by decide +kernel
theorem dX12_byteOf_36 : decode cX12_byteOf 36 = .ok (.if_icmp .ge 7, 3) := by decide +kernel
theorem dX12_byteOf_39 : decode cX12_byteOf 39 = .ok (.iload_n 3, 1) := by decide +kernel
theorem dX12_byteOf_40 : decode cX12_byteOf 40 = .ok (.goto 5, 3) := by decide +kernel
theorem dX12_byteOf_43 : decode cX12_byteOf 43 = .ok (.iload 4, 2) := by decide +kernel
theorem dX12_byteOf_45 : decode cX12_byteOf 45 = .ok (.istore 6, 2) := by decide +kernel
theorem dX12_byteOf_47 : decode cX12_byteOf 47 = .ok (.iload 6, 2) := by decide +kernel
theorem dX12_byteOf_49 : decode cX12_byteOf 49 = .ok (.bipush 24, 2) := by decide +kernel
theorem dX12_byteOf_51 : decode cX12_byteOf 51 = .ok (.bipush 8, 2) := by decide +kernel
theorem dX12_byteOf_53 : decode cX12_byteOf 53 = .ok (.iload 5, 2) := by decide +kernel
theorem dX12_byteOf_55 : decode cX12_byteOf 55 = .ok (.iconst 4, 1) := by decide +kernel
theorem dX12_byteOf_56 : decode cX12_byteOf 56 = .ok (.irem, 1) := by decide +kernel
theorem dX12_byteOf_57 : decode cX12_byteOf 57 = .ok (.imul, 1) := by decide +kernel
theorem dX12_byteOf_58 : decode cX12_byteOf 58 = .ok (.isub, 1) := by decide +kernel
theorem dX12_byteOf_59 : decode cX12_byteOf 59 = .ok (.ishr, 1) := by decide +kernel
theorem dX12_byteOf_60 : decode cX12_byteOf 60 = .ok (.sipush 255, 3) := by decide +kernel
theorem dX12_byteOf_63 : decode cX12_byteOf 63 = .ok (.iand, 1) := by decide +kernel
theorem dX12_byteOf_64 : decode cX12_byteOf 64 = .ok (.ireturn, 1) := by decide +kernel
theorem dX12_feed_0 : decode cX12_feed 0 = .ok (.iconst 0, 1) := by decide +kernel
theorem dX12_feed_1 : decode cX12_feed 1 = .ok (.istore 6, 2) := by decide +kernel
theorem dX12_feed_3 : decode cX12_feed 3 = .ok (.iconst 0, 1) := by decide +kernel
theorem dX12_feed_4 : decode cX12_feed 4 = .ok (.istore 7, 2) := by decide +kernel
theorem dX12_feed_6 : decode cX12_feed 6 = .ok (.iload 7, 2) := by decide +kernel
theorem dX12_feed_8 : decode cX12_feed 8 = .ok (.bipush 20, 2) := by decide +kernel
theorem dX12_feed_10 : decode cX12_feed 10 = .ok (.if_icmp .ge 34, 3) := by decide +kernel
theorem dX12_feed_13 : decode cX12_feed 13 = .ok (.iload 6, 2) := by decide +kernel
theorem dX12_feed_15 : decode cX12_feed 15 = .ok (.iload_n 1, 1) := by decide +kernel
theorem dX12_feed_16 : decode cX12_feed 16 = .ok (.iload_n 2, 1) := by decide +kernel
theorem dX12_feed_17 : decode cX12_feed 17 = .ok (.iload_n 3, 1) := by decide +kernel
theorem dX12_feed_18 : decode cX12_feed 18 = .ok (.iload 4, 2) := by decide +kernel
theorem dX12_feed_20 : decode cX12_feed 20 = .ok (.iload 5, 2) := by decide +kernel
theorem dX12_feed_22 : decode cX12_feed 22 = .ok (.iload 7, 2) := by decide +kernel
theorem dX12_feed_24 : decode cX12_feed 24 = .ok (.invokestatic 111, 3) := by decide +kernel
theorem dX12_feed_27 : decode cX12_feed 27 = .ok (.ifCond .eq 7, 3) := by decide +kernel
theorem dX12_feed_30 : decode cX12_feed 30 = .ok (.iconst 1, 1) := by decide +kernel
theorem dX12_feed_31 : decode cX12_feed 31 = .ok (.goto 4, 3) := by decide +kernel
theorem dX12_feed_34 : decode cX12_feed 34 = .ok (.iconst 0, 1) := by decide +kernel
theorem dX12_feed_35 : decode cX12_feed 35 = .ok (.iadd, 1) := by decide +kernel
theorem dX12_feed_36 : decode cX12_feed 36 = .ok (.istore 6, 2) := by decide +kernel
theorem dX12_feed_38 : decode cX12_feed 38 = .ok (.iinc 7 1, 3) := by decide +kernel
theorem dX12_feed_41 : decode cX12_feed 41 = .ok (.goto (-35), 3) := by decide +kernel
theorem dX12_feed_44 : decode cX12_feed 44 = .ok (.aload_n 0, 1) := by decide +kernel
theorem dX12_feed_45 : decode cX12_feed 45 = .ok (.getfield 115, 3) := by decide +kernel
theorem dX12_feed_48 : decode cX12_feed 48 = .ok (.iload 6, 2) := by decide +kernel
theorem dX12_feed_50 : decode cX12_feed 50 = .ok (.iadd, 1) := by decide +kernel
theorem dX12_feed_51 : decode cX12_feed 51 = .ok (.sipush 240, 3) := by decide +kernel
theorem dX12_feed_54 : decode cX12_feed 54 = .ok (.if_icmp .le 5, 3) := by decide +kernel
theorem dX12_feed_57 : decode cX12_feed 57 = .ok (.iconst (-1), 1) := by decide +kernel
theorem dX12_feed_58 : decode cX12_feed 58 = .ok (.ireturn, 1) := by decide +kernel
theorem dX12_feed_59 : decode cX12_feed 59 = .ok (.iconst 0, 1) := by decide +kernel
theorem dX12_feed_60 : decode cX12_feed 60 = .ok (.istore 7, 2) := by decide +kernel
theorem dX12_feed_62 : decode cX12_feed 62 = .ok (.iload 7, 2) := by decide +kernel
theorem dX12_feed_64 : decode cX12_feed 64 = .ok (.bipush 20, 2) := by decide +kernel
theorem dX12_feed_66 : decode cX12_feed 66 = .ok (.if_icmp .ge 49, 3) := by decide +kernel
theorem dX12_feed_69 : decode cX12_feed 69 = .ok (.iload_n 1, 1) := by decide +kernel
theorem dX12_feed_70 : decode cX12_feed 70 = .ok (.iload_n 2, 1) := by decide +kernel
theorem dX12_feed_71 : decode cX12_feed 71 = .ok (.iload_n 3, 1) := by decide +kernel
theorem dX12_feed_72 : decode cX12_feed 72 = .ok (.iload 4, 2) := by decide +kernel
theorem dX12_feed_74 : decode cX12_feed 74 = .ok (.iload 5, 2) := by decide +kernel
theorem dX12_feed_76 : decode cX12_feed 76 = .ok (.iload 7, 2) := by decide +kernel
theorem dX12_feed_78 : decode cX12_feed 78 = .ok (.invokestatic 111, 3) := by decide +kernel
theorem dX12_feed_81 : decode cX12_feed 81 = .ok (.istore 8, 2) := by decide +kernel
theorem dX12_feed_83 : decode cX12_feed 83 = .ok (.iload 8, 2) := by decide +kernel
theorem dX12_feed_85 : decode cX12_feed 85 = .ok (.ifCond .eq 24, 3) := by decide +kernel
theorem dX12_feed_88 : decode cX12_feed 88 = .ok (.aload_n 0, 1) := by decide +kernel
theorem dX12_feed_89 : decode cX12_feed 89 = .ok (.getfield 9, 3) := by decide +kernel
theorem dX12_feed_92 : decode cX12_feed 92 = .ok (.aload_n 0, 1) := by decide +kernel
theorem dX12_feed_93 : decode cX12_feed 93 = .ok (.getfield 115, 3) := by decide +kernel
theorem dX12_feed_96 : decode cX12_feed 96 = .ok (.iload 8, 2) := by decide +kernel
theorem dX12_feed_98 : decode cX12_feed 98 = .ok (.iastore, 1) := by decide +kernel
theorem dX12_feed_99 : decode cX12_feed 99 = .ok (.aload_n 0, 1) := by decide +kernel
theorem dX12_feed_100 : decode cX12_feed 100 = .ok (.dup, 1) := by decide +kernel
theorem dX12_feed_101 : decode cX12_feed 101 = .ok (.getfield 115, 3) := by decide +kernel
theorem dX12_feed_104 : decode cX12_feed 104 = .ok (.iconst 1, 1) := by decide +kernel
theorem dX12_feed_105 : decode cX12_feed 105 = .ok (.iadd, 1) := by decide +kernel
theorem dX12_feed_106 : decode cX12_feed 106 = .ok (.putfield 115, 3) := by decide +kernel
theorem dX12_feed_109 : decode cX12_feed 109 = .ok (.iinc 7 1, 3) := by decide +kernel
theorem dX12_feed_112 : decode cX12_feed 112 = .ok (.goto (-50), 3) := by decide +kernel
theorem dX12_feed_115 : decode cX12_feed 115 = .ok (.aload_n 0, 1) := by decide +kernel
theorem dX12_feed_116 : decode cX12_feed 116 = .ok (.getfield 115, 3) := by decide +kernel
theorem dX12_feed_119 : decode cX12_feed 119 = .ok (.ireturn, 1) := by decide +kernel
theorem dX12_end_0 : decode cX12_end 0 = .ok (.iload_n 1, 1) := by decide +kernel
theorem dX12_end_1 : decode cX12_end 1 = .ok (.ifCond .lt 11, 3) := by decide +kernel
theorem dX12_end_4 : decode cX12_end 4 = .ok (.iload_n 1, 1) := by decide +kernel
theorem dX12_end_5 : decode cX12_end 5 = .ok (.aload_n 0, 1) := by decide +kernel
theorem dX12_end_6 : decode cX12_end 6 = .ok (.getfield 115, 3) := by decide +kernel
theorem dX12_end_9 : decode cX12_end 9 = .ok (.if_icmp .le 5, 3) := by decide +kernel
theorem dX12_end_12 : decode cX12_end 12 = .ok (.iconst 0, 1) := by decide +kernel
theorem dX12_end_13 : decode cX12_end 13 = .ok (.ireturn, 1) := by decide +kernel
theorem dX12_end_14 : decode cX12_end 14 = .ok (.aload_n 0, 1) := by decide +kernel
theorem dX12_end_15 : decode cX12_end 15 = .ok (.iload_n 1, 1) := by decide +kernel
theorem dX12_end_16 : decode cX12_end 16 = .ok (.putfield 115, 3) := by decide +kernel
theorem dX12_end_19 : decode cX12_end 19 = .ok (.iconst 1, 1) := by decide +kernel
theorem dX12_end_20 : decode cX12_end 20 = .ok (.ireturn, 1) := by decide +kernel
theorem dX12_here_0 : decode cX12_here 0 = .ok (.aload_n 0, 1) := by decide +kernel
theorem dX12_here_1 : decode cX12_here 1 = .ok (.getfield 118, 3) := by decide +kernel
theorem dX12_here_4 : decode cX12_here 4 = .ok (.aload_n 0, 1) := by decide +kernel
theorem dX12_here_5 : decode cX12_here 5 = .ok (.getfield 115, 3) := by decide +kernel
theorem dX12_here_8 : decode cX12_here 8 = .ok (.if_icmp .ge 15, 3) := by decide +kernel
theorem dX12_here_11 : decode cX12_here 11 = .ok (.aload_n 0, 1) := by decide +kernel
theorem dX12_here_12 : decode cX12_here 12 = .ok (.getfield 9, 3) := by decide +kernel
theorem dX12_here_15 : decode cX12_here 15 = .ok (.aload_n 0, 1) := by decide +kernel
theorem dX12_here_16 : decode cX12_here 16 = .ok (.getfield 118, 3) := by decide +kernel
theorem dX12_here_19 : decode cX12_here 19 = .ok (.iaload, 1) := by decide +kernel
theorem dX12_here_20 : decode cX12_here 20 = .ok (.goto 4, 3) := by decide +kernel
theorem dX12_here_23 : decode cX12_here 23 = .ok (.iconst (-1), 1) := by decide +kernel
theorem dX12_here_24 : decode cX12_here 24 = .ok (.ireturn, 1) := by decide +kernel
theorem dX12_look_0 : decode cX12_look 0 = .ok (.aload_n 0, 1) := by decide +kernel
theorem dX12_look_1 : decode cX12_look 1 = .ok (.invokevirtual 121, 3) := by decide +kernel
theorem dX12_look_4 : decode cX12_look 4 = .ok (.bipush 32, 2) := by decide +kernel
theorem dX12_look_6 : decode cX12_look 6 = .ok (.if_icmp .ne 16, 3) := by decide +kernel
theorem dX12_look_9 : decode cX12_look 9 = .ok (.aload_n 0, 1) := by decide +kernel
theorem dX12_look_10 : decode cX12_look 10 = .ok (.dup, 1) := by decide +kernel
theorem dX12_look_11 : decode cX12_look 11 = .ok (.getfield 118, 3) := by decide +kernel
theorem dX12_look_14 : decode cX12_look 14 = .ok (.iconst 1, 1) := by decide +kernel
theorem dX12_look_15 : decode cX12_look 15 = .ok (.iadd, 1) := by decide +kernel
theorem dX12_look_16 : decode cX12_look 16 = .ok (.putfield 118, 3) := by decide +kernel
theorem dX12_look_19 : decode cX12_look 19 = .ok (.goto (-19), 3) := by decide +kernel
theorem dX12_look_22 : decode cX12_look 22 = .ok (.aload_n 0, 1) := by decide +kernel
theorem dX12_look_23 : decode cX12_look 23 = .ok (.invokevirtual 121, 3) := by decide +kernel
theorem dX12_look_26 : decode cX12_look 26 = .ok (.ireturn, 1) := by decide +kernel
theorem dX12_bad_0 : decode cX12_bad 0 = .ok (.aload_n 0, 1) := by decide +kernel
theorem dX12_bad_1 : decode cX12_bad 1 = .ok (.aload_n 0, 1) := by decide +kernel
theorem dX12_bad_2 : decode cX12_bad 2 = .ok (.getfield 125, 3) := by decide +kernel
theorem dX12_bad_5 : decode cX12_bad 5 = .ok (.iconst (-1), 1) := by decide +kernel
theorem dX12_bad_6 : decode cX12_bad 6 = .ok (.if_icmp .ne 10, 3) := by decide +kernel
theorem dX12_bad_9 : decode cX12_bad 9 = .ok (.aload_n 0, 1) := by decide +kernel
theorem dX12_bad_10 : decode cX12_bad 10 = .ok (.getfield 118, 3) := by decide +kernel
theorem dX12_bad_13 : decode cX12_bad 13 = .ok (.goto 7, 3) := by decide +kernel
theorem dX12_bad_16 : decode cX12_bad 16 = .ok (.aload_n 0, 1) := by decide +kernel
theorem dX12_bad_17 : decode cX12_bad 17 = .ok (.getfield 125, 3) := by decide +kernel
theorem dX12_bad_20 : decode cX12_bad 20 = .ok (.putfield 125, 3) := by decide +kernel
theorem dX12_bad_23 : decode cX12_bad 23 = .ok (.return_, 1) := by decide +kernel
theorem dX12_isDigit_0 : decode cX12_isDigit 0 = .ok (.iload_n 0, 1) := by decide +kernel
theorem dX12_isDigit_1 : decode cX12_isDigit 1 = .ok (.bipush 48, 2) := by decide +kernel
theorem dX12_isDigit_3 : decode cX12_isDigit 3 = .ok (.if_icmp .lt 13, 3) := by decide +kernel
theorem dX12_isDigit_6 : decode cX12_isDigit 6 = .ok (.iload_n 0, 1) := by decide +kernel
theorem dX12_isDigit_7 : decode cX12_isDigit 7 = .ok (.bipush 57, 2) := by decide +kernel
theorem dX12_isDigit_9 : decode cX12_isDigit 9 = .ok (.if_icmp .gt 7, 3) := by decide +kernel
theorem dX12_isDigit_12 : decode cX12_isDigit 12 = .ok (.iconst 1, 1) := by decide +kernel
theorem dX12_isDigit_13 : decode cX12_isDigit 13 = .ok (.goto 4, 3) := by decide +kernel
theorem dX12_isDigit_16 : decode cX12_isDigit 16 = .ok (.iconst 0, 1) := by decide +kernel
theorem dX12_isDigit_17 : decode cX12_isDigit 17 = .ok (.ireturn, 1) := by decide +kernel
theorem dX12_put_0 : decode cX12_put 0 = .ok (.aload_n 0, 1) := by decide +kernel
theorem dX12_put_1 : decode cX12_put 1 = .ok (.getfield 13, 3) := by decide +kernel
theorem dX12_put_4 : decode cX12_put 4 = .ok (.sipush 520, 3) := by decide +kernel
theorem dX12_put_7 : decode cX12_put 7 = .ok (.aload_n 0, 1) := by decide +kernel
theorem dX12_put_8 : decode cX12_put 8 = .ok (.getfield 128, 3) := by decide +kernel
theorem dX12_put_11 : decode cX12_put 11 = .ok (.imul, 1) := by decide +kernel
theorem dX12_put_12 : decode cX12_put 12 = .ok (.aload_n 0, 1) := by decide +kernel
theorem dX12_put_13 : decode cX12_put 13 = .ok (.getfield 19, 3) := by decide +kernel
theorem dX12_put_16 : decode cX12_put 16 = .ok (.aload_n 0, 1) := by decide +kernel
theorem dX12_put_17 : decode cX12_put 17 = .ok (.getfield 128, 3) := by decide +kernel
theorem dX12_put_20 : decode cX12_put 20 = .ok (.iaload, 1) := by decide +kernel
theorem dX12_put_21 : decode cX12_put 21 = .ok (.iadd, 1) := by decide +kernel
theorem dX12_put_22 : decode cX12_put 22 = .ok (.iload_n 1, 1) := by decide +kernel
theorem dX12_put_23 : decode cX12_put 23 = .ok (.iastore, 1) := by decide +kernel
theorem dX12_put_24 : decode cX12_put 24 = .ok (.aload_n 0, 1) := by decide +kernel
theorem dX12_put_25 : decode cX12_put 25 = .ok (.getfield 16, 3) := by decide +kernel
theorem dX12_put_28 : decode cX12_put 28 = .ok (.sipush 520, 3) := by decide +kernel
theorem dX12_put_31 : decode cX12_put 31 = .ok (.aload_n 0, 1) := by decide +kernel
theorem dX12_put_32 : decode cX12_put 32 = .ok (.getfield 128, 3) := by decide +kernel
theorem dX12_put_35 : decode cX12_put 35 = .ok (.imul, 1) := by decide +kernel
theorem dX12_put_36 : decode cX12_put 36 = .ok (.aload_n 0, 1) := by decide +kernel
theorem dX12_put_37 : decode cX12_put 37 = .ok (.getfield 19, 3) := by decide +kernel
theorem dX12_put_40 : decode cX12_put 40 = .ok (.aload_n 0, 1) := by decide +kernel
theorem dX12_put_41 : decode cX12_put 41 = .ok (.getfield 128, 3) := by decide +kernel
theorem dX12_put_44 : decode cX12_put 44 = .ok (.iaload, 1) := by decide +kernel
theorem dX12_put_45 : decode cX12_put 45 = .ok (.iadd, 1) := by decide +kernel
theorem dX12_put_46 : decode cX12_put 46 = .ok (.iload_n 2, 1) := by decide +kernel
theorem dX12_put_47 : decode cX12_put 47 = .ok (.iastore, 1) := by decide +kernel
theorem dX12_put_48 : decode cX12_put 48 = .ok (.aload_n 0, 1) := by decide +kernel
theorem dX12_put_49 : decode cX12_put 49 = .ok (.getfield 19, 3) := by decide +kernel
theorem dX12_put_52 : decode cX12_put 52 = .ok (.aload_n 0, 1) := by decide +kernel
theorem dX12_put_53 : decode cX12_put 53 = .ok (.getfield 128, 3) := by decide +kernel
theorem dX12_put_56 : decode cX12_put 56 = .ok (.dup2, 1) := by decide +kernel
theorem dX12_put_57 : decode cX12_put 57 = .ok (.iaload, 1) := by decide +kernel
theorem dX12_put_58 : decode cX12_put 58 = .ok (.iconst 1, 1) := by decide +kernel
theorem dX12_put_59 : decode cX12_put 59 = .ok (.iadd, 1) := by decide +kernel
theorem dX12_put_60 : decode cX12_put 60 = .ok (.iastore, 1) := by decide +kernel
theorem dX12_put_61 : decode cX12_put 61 = .ok (.return_, 1) := by decide +kernel
theorem dX12_letterOf_0 : decode cX12_letterOf 0 = .ok (.iload_n 0, 1) := by decide +kernel
theorem dX12_letterOf_1 : decode cX12_letterOf 1 = .ok (.bipush 112, 2) := by decide +kernel
theorem dX12_letterOf_3 : decode cX12_letterOf 3 = .ok (.if_icmp .ne 7, 3) := by decide +kernel
theorem dX12_letterOf_6 : decode cX12_letterOf 6 = .ok (.iconst 0, 1) := by decide +kernel
theorem dX12_letterOf_7 : decode cX12_letterOf 7 = .ok (.goto 54, 3) := by decide +kernel
theorem dX12_letterOf_10 : decode cX12_letterOf 10 = .ok (.iload_n 0, 1) := by decide +kernel
theorem dX12_letterOf_11 : decode cX12_letterOf 11 = .ok (.bipush 116, 2) := by decide +kernel
theorem dX12_letterOf_13 : decode cX12_letterOf 13 = .ok (.if_icmp .ne 7, 3) := by decide +kernel
theorem dX12_letterOf_16 : decode cX12_letterOf 16 = .ok (.iconst 1, 1) := by decide +kernel
theorem dX12_letterOf_17 : decode cX12_letterOf 17 = .ok (.goto 44, 3) := by decide +kernel
theorem dX12_letterOf_20 : decode cX12_letterOf 20 = .ok (.iload_n 0, 1) := by decide +kernel
theorem dX12_letterOf_21 : decode cX12_letterOf 21 = .ok (.bipush 108, 2) := by decide +kernel
theorem dX12_letterOf_23 : decode cX12_letterOf 23 = .ok (.if_icmp .ne 7, 3) := by decide +kernel
theorem dX12_letterOf_26 : decode cX12_letterOf 26 = .ok (.iconst 2, 1) := by decide +kernel
theorem dX12_letterOf_27 : decode cX12_letterOf 27 = .ok (.goto 34, 3) := by decide +kernel
theorem dX12_letterOf_30 : decode cX12_letterOf 30 = .ok (.iload_n 0, 1) := by decide +kernel
theorem dX12_letterOf_31 : decode cX12_letterOf 31 = .ok (.bipush 107, 2) := by decide +kernel
theorem dX12_letterOf_33 : decode cX12_letterOf 33 = .ok (.if_icmp .ne 7, 3) := by decide +kernel
theorem dX12_letterOf_36 : decode cX12_letterOf 36 = .ok (.iconst 3, 1) := by decide +kernel
theorem dX12_letterOf_37 : decode cX12_letterOf 37 = .ok (.goto 24, 3) := by decide +kernel
theorem dX12_letterOf_40 : decode cX12_letterOf 40 = .ok (.iload_n 0, 1) := by decide +kernel
theorem dX12_letterOf_41 : decode cX12_letterOf 41 = .ok (.bipush 110, 2) := by decide +kernel
theorem dX12_letterOf_43 : decode cX12_letterOf 43 = .ok (.if_icmp .ne 7, 3) := by decide +kernel
theorem dX12_letterOf_46 : decode cX12_letterOf 46 = .ok (.iconst 4, 1) := by decide +kernel
theorem dX12_letterOf_47 : decode cX12_letterOf 47 = .ok (.goto 14, 3) := by decide +kernel
theorem dX12_letterOf_50 : decode cX12_letterOf 50 = .ok (.iload_n 0, 1) := by decide +kernel
theorem dX12_letterOf_51 : decode cX12_letterOf 51 = .ok (.bipush 100, 2) := by decide +kernel
theorem dX12_letterOf_53 : decode cX12_letterOf 53 = .ok (.if_icmp .ne 7, 3) := by decide +kernel
theorem dX12_letterOf_56 : decode cX12_letterOf 56 = .ok (.iconst 5, 1) := by decide +kernel
theorem dX12_letterOf_57 : decode cX12_letterOf 57 = .ok (.goto 4, 3) := by decide +kernel
theorem dX12_letterOf_60 : decode cX12_letterOf 60 = .ok (.iconst (-1), 1) := by decide +kernel
theorem dX12_letterOf_61 : decode cX12_letterOf 61 = .ok (.ireturn, 1) := by decide +kernel
theorem dX12_opens_0 : decode cX12_opens 0 = .ok (.aload_n 0, 1) := by decide +kernel
theorem dX12_opens_1 : decode cX12_opens 1 = .ok (.getfield 131, 3) := by decide +kernel
theorem dX12_opens_4 : decode cX12_opens 4 = .ok (.bipush 6, 2) := by decide +kernel
theorem dX12_opens_6 : decode cX12_opens 6 = .ok (.if_icmp .ne 7, 3) := by decide +kernel
theorem dX12_opens_9 : decode cX12_opens 9 = .ok (.aload_n 0, 1) := by decide +kernel
theorem dX12_opens_10 : decode cX12_opens 10 = .ok (.invokevirtual 134, 3) := by decide +kernel
theorem dX12_opens_13 : decode cX12_opens 13 = .ok (.aload_n 0, 1) := by decide +kernel
theorem dX12_opens_14 : decode cX12_opens 14 = .ok (.dup, 1) := by decide +kernel
theorem dX12_opens_15 : decode cX12_opens 15 = .ok (.getfield 131, 3) := by decide +kernel
theorem dX12_opens_18 : decode cX12_opens 18 = .ok (.iconst 1, 1) := by decide +kernel
theorem dX12_opens_19 : decode cX12_opens 19 = .ok (.iadd, 1) := by decide +kernel
theorem dX12_opens_20 : decode cX12_opens 20 = .ok (.putfield 131, 3) := by decide +kernel
theorem dX12_opens_23 : decode cX12_opens 23 = .ok (.aload_n 0, 1) := by decide +kernel
theorem dX12_opens_24 : decode cX12_opens 24 = .ok (.dup, 1) := by decide +kernel
theorem dX12_opens_25 : decode cX12_opens 25 = .ok (.getfield 118, 3) := by decide +kernel
theorem dX12_opens_28 : decode cX12_opens 28 = .ok (.iconst 1, 1) := by decide +kernel
theorem dX12_opens_29 : decode cX12_opens 29 = .ok (.iadd, 1) := by decide +kernel
theorem dX12_opens_30 : decode cX12_opens 30 = .ok (.putfield 118, 3) := by decide +kernel
theorem dX12_opens_33 : decode cX12_opens 33 = .ok (.return_, 1) := by decide +kernel
theorem dX12_closes_0 : decode cX12_closes 0 = .ok (.aload_n 0, 1) := by decide +kernel
theorem dX12_closes_1 : decode cX12_closes 1 = .ok (.getfield 125, 3) := by decide +kernel
theorem dX12_closes_4 : decode cX12_closes 4 = .ok (.iconst (-1), 1) := by decide +kernel
theorem dX12_closes_5 : decode cX12_closes 5 = .ok (.if_icmp .ne 15, 3) := by decide +kernel
theorem dX12_closes_8 : decode cX12_closes 8 = .ok (.aload_n 0, 1) := by decide +kernel
theorem dX12_closes_9 : decode cX12_closes 9 = .ok (.invokevirtual 137, 3) := by decide +kernel
theorem dX12_closes_12 : decode cX12_closes 12 = .ok (.iload_n 1, 1) := by decide +kernel
theorem dX12_closes_13 : decode cX12_closes 13 = .ok (.if_icmp .eq 7, 3) := by decide +kernel
theorem dX12_closes_16 : decode cX12_closes 16 = .ok (.aload_n 0, 1) := by decide +kernel
theorem dX12_closes_17 : decode cX12_closes 17 = .ok (.invokevirtual 134, 3) := by decide +kernel
theorem dX12_closes_20 : decode cX12_closes 20 = .ok (.aload_n 0, 1) := by decide +kernel
theorem dX12_closes_21 : decode cX12_closes 21 = .ok (.dup, 1) := by decide +kernel
theorem dX12_closes_22 : decode cX12_closes 22 = .ok (.getfield 118, 3) := by decide +kernel
theorem dX12_closes_25 : decode cX12_closes 25 = .ok (.iconst 1, 1) := by decide +kernel
theorem dX12_closes_26 : decode cX12_closes 26 = .ok (.iadd, 1) := by decide +kernel
theorem dX12_closes_27 : decode cX12_closes 27 = .ok (.putfield 118, 3) := by decide +kernel
theorem dX12_closes_30 : decode cX12_closes 30 = .ok (.aload_n 0, 1) := by decide +kernel
theorem dX12_closes_31 : decode cX12_closes 31 = .ok (.dup, 1) := by decide +kernel
theorem dX12_closes_32 : decode cX12_closes 32 = .ok (.getfield 131, 3) := by decide +kernel
theorem dX12_closes_35 : decode cX12_closes 35 = .ok (.iconst 1, 1) := by decide +kernel
theorem dX12_closes_36 : decode cX12_closes 36 = .ok (.isub, 1) := by decide +kernel
theorem dX12_closes_37 : decode cX12_closes 37 = .ok (.putfield 131, 3) := by decide +kernel
theorem dX12_closes_40 : decode cX12_closes 40 = .ok (.return_, 1) := by decide +kernel
theorem dX12_plainNumber_0 : decode cX12_plainNumber 0 = .ok (.iconst 0, 1) := by decide +kernel
theorem dX12_plainNumber_1 : decode cX12_plainNumber 1 = .ok (.istore_n 1, 1) := by decide +kernel
theorem dX12_plainNumber_2 : decode cX12_plainNumber 2 = .ok (.iconst 0, 1) := by decide +kernel
theorem dX12_plainNumber_3 : decode cX12_plainNumber 3 = .ok (.istore_n 2, 1) := by decide +kernel
theorem dX12_plainNumber_4 : decode cX12_plainNumber 4 = .ok (.iload_n 2, 1) := by decide +kernel
theorem dX12_plainNumber_5 : decode cX12_plainNumber 5 = .ok (.iconst 4, 1) := by decide +kernel
theorem dX12_plainNumber_6 : decode cX12_plainNumber 6 = .ok (.if_icmp .ge 42, 3) := by decide +kernel
theorem dX12_plainNumber_9 : decode cX12_plainNumber 9 = .ok (.aload_n 0, 1) := by decide +kernel
theorem dX12_plainNumber_10 : decode cX12_plainNumber 10 = .ok (.invokevirtual 121, 3) := by decide +kernel
theorem dX12_plainNumber_13 : decode cX12_plainNumber 13 = .ok (.invokestatic 140, 3) := by decide +kernel
theorem dX12_plainNumber_16 : decode cX12_plainNumber 16 = .ok (.ifCond .eq 32, 3) := by decide +kernel
theorem dX12_plainNumber_19 : decode cX12_plainNumber 19 = .ok (.bipush 10, 2) := by decide +kernel
theorem dX12_plainNumber_21 : decode cX12_plainNumber 21 = .ok (.iload_n 1, 1) := by decide +kernel
theorem dX12_plainNumber_22 : decode cX12_plainNumber 22 = .ok (.imul, 1) := by decide +kernel
theorem dX12_plainNumber_23 : decode cX12_plainNumber 23 = .ok (.aload_n 0, 1) := by decide +kernel
theorem dX12_plainNumber_24 : decode cX12_plainNumber 24 = .ok (.invokevirtual 121, 3) := by decide +kernel
theorem dX12_plainNumber_27 : decode cX12_plainNumber 27 = .ok (.iadd, 1) := by decide +kernel
theorem dX12_plainNumber_28 : decode cX12_plainNumber 28 = .ok (.bipush 48, 2) := by decide +kernel
theorem dX12_plainNumber_30 : decode cX12_plainNumber 30 = .ok (.isub, 1) := by decide +kernel
theorem dX12_plainNumber_31 : decode cX12_plainNumber 31 = .ok (.istore_n 1, 1) := by decide +kernel
theorem dX12_plainNumber_32 : decode cX12_plainNumber 32 = .ok (.aload_n 0, 1) := by decide +kernel
theorem dX12_plainNumber_33 : decode cX12_plainNumber 33 = .ok (.dup, 1) := by decide +kernel
theorem dX12_plainNumber_34 : decode cX12_plainNumber 34 = .ok (.getfield 118, 3) := by decide +kernel
theorem dX12_plainNumber_37 : decode cX12_plainNumber 37 = .ok (.iconst 1, 1) := by decide +kernel
theorem dX12_plainNumber_38 : decode cX12_plainNumber 38 = .ok (.iadd, 1) := by decide +kernel
theorem dX12_plainNumber_39 : decode cX12_plainNumber 39 = .ok (.putfield 118, 3) := by decide +kernel
theorem dX12_plainNumber_42 : decode cX12_plainNumber 42 = .ok (.iinc 2 1, 3) := by decide +kernel
theorem dX12_plainNumber_45 : decode cX12_plainNumber 45 = .ok (.goto (-41), 3) := by decide +kernel
theorem dX12_plainNumber_48 : decode cX12_plainNumber 48 = .ok (.aload_n 0, 1) := by decide +kernel
theorem dX12_plainNumber_49 : decode cX12_plainNumber 49 = .ok (.invokevirtual 121, 3) := by decide +kernel
theorem dX12_plainNumber_52 : decode cX12_plainNumber 52 = .ok (.invokestatic 140, 3) := by decide +kernel
theorem dX12_plainNumber_55 : decode cX12_plainNumber 55 = .ok (.ifCond .eq 7, 3) := by decide +kernel
theorem dX12_plainNumber_58 : decode cX12_plainNumber 58 = .ok (.aload_n 0, 1) := by decide +kernel
theorem dX12_plainNumber_59 : decode cX12_plainNumber 59 = .ok (.invokevirtual 134, 3) := by decide +kernel
theorem dX12_plainNumber_62 : decode cX12_plainNumber 62 = .ok (.iload_n 1, 1) := by decide +kernel
theorem dX12_plainNumber_63 : decode cX12_plainNumber 63 = .ok (.ireturn, 1) := by decide +kernel
theorem dX12_atom_0 : decode cX12_atom 0 = .ok (.aload_n 0, 1) := by decide +kernel
theorem dX12_atom_1 : decode cX12_atom 1 = .ok (.invokevirtual 137, 3) := by decide +kernel
theorem dX12_atom_4 : decode cX12_atom 4 = .ok (.istore_n 1, 1) := by decide +kernel
theorem dX12_atom_5 : decode cX12_atom 5 = .ok (.iload_n 1, 1) := by decide +kernel
theorem dX12_atom_6 : decode cX12_atom 6 = .ok (.invokestatic 140, 3) := by decide +kernel
theorem dX12_atom_9 : decode cX12_atom 9 = .ok (.ifCond .eq 15, 3) := by decide +kernel
theorem dX12_atom_12 : decode cX12_atom 12 = .ok (.aload_n 0, 1) := by decide +kernel
theorem dX12_atom_13 : decode cX12_atom 13 = .ok (.iconst 0, 1) := by decide +kernel
theorem dX12_atom_14 : decode cX12_atom 14 = .ok (.aload_n 0, 1) := by decide +kernel
theorem dX12_atom_15 : decode cX12_atom 15 = .ok (.invokevirtual 144, 3) := by decide +kernel
theorem dX12_atom_18 : decode cX12_atom 18 = .ok (.invokevirtual 147, 3) := by decide +kernel
theorem dX12_atom_21 : decode cX12_atom 21 = .ok (.goto 68, 3) := by decide +kernel
theorem dX12_atom_24 : decode cX12_atom 24 = .ok (.iload_n 1, 1) := by decide +kernel
theorem dX12_atom_25 : decode cX12_atom 25 = .ok (.invokestatic 151, 3) := by decide +kernel
theorem dX12_atom_28 : decode cX12_atom 28 = .ok (.iconst (-1), 1) := by decide +kernel
theorem dX12_atom_29 : decode cX12_atom 29 = .ok (.if_icmp .eq 25, 3) := by decide +kernel
theorem dX12_atom_32 : decode cX12_atom 32 = .ok (.aload_n 0, 1) := by decide +kernel
theorem dX12_atom_33 : decode cX12_atom 33 = .ok (.dup, 1) := by decide +kernel
theorem dX12_atom_34 : decode cX12_atom 34 = .ok (.getfield 118, 3) := by decide +kernel
theorem dX12_atom_37 : decode cX12_atom 37 = .ok (.iconst 1, 1) := by decide +kernel
theorem dX12_atom_38 : decode cX12_atom 38 = .ok (.iadd, 1) := by decide +kernel
theorem dX12_atom_39 : decode cX12_atom 39 = .ok (.putfield 118, 3) := by decide +kernel
theorem dX12_atom_42 : decode cX12_atom 42 = .ok (.aload_n 0, 1) := by decide +kernel
theorem dX12_atom_43 : decode cX12_atom 43 = .ok (.iconst 1, 1) := by decide +kernel
theorem dX12_atom_44 : decode cX12_atom 44 = .ok (.iload_n 1, 1) := by decide +kernel
theorem dX12_atom_45 : decode cX12_atom 45 = .ok (.invokestatic 151, 3) := by decide +kernel
theorem dX12_atom_48 : decode cX12_atom 48 = .ok (.invokevirtual 147, 3) := by decide +kernel
theorem dX12_atom_51 : decode cX12_atom 51 = .ok (.goto 38, 3) := by decide +kernel
theorem dX12_atom_54 : decode cX12_atom 54 = .ok (.iload_n 1, 1) := by decide +kernel
theorem dX12_atom_55 : decode cX12_atom 55 = .ok (.bipush 91, 2) := by decide +kernel
theorem dX12_atom_57 : decode cX12_atom 57 = .ok (.if_icmp .ne 28, 3) := by decide +kernel
theorem dX12_atom_60 : decode cX12_atom 60 = .ok (.aload_n 0, 1) := by decide +kernel
theorem dX12_atom_61 : decode cX12_atom 61 = .ok (.invokevirtual 155, 3) := by decide +kernel
theorem dX12_atom_64 : decode cX12_atom 64 = .ok (.aload_n 0, 1) := by decide +kernel
theorem dX12_atom_65 : decode cX12_atom 65 = .ok (.getfield 125, 3) := by decide +kernel
theorem dX12_atom_68 : decode cX12_atom 68 = .ok (.iconst (-1), 1) := by decide +kernel
theorem dX12_atom_69 : decode cX12_atom 69 = .ok (.if_icmp .ne 20, 3) := by decide +kernel
theorem dX12_atom_72 : decode cX12_atom 72 = .ok (.aload_n 0, 1) := by decide +kernel
theorem dX12_atom_73 : decode cX12_atom 73 = .ok (.invokevirtual 158, 3) := by decide +kernel
theorem dX12_atom_76 : decode cX12_atom 76 = .ok (.aload_n 0, 1) := by decide +kernel
theorem dX12_atom_77 : decode cX12_atom 77 = .ok (.bipush 93, 2) := by decide +kernel
theorem dX12_atom_79 : decode cX12_atom 79 = .ok (.invokevirtual 161, 3) := by decide +kernel
theorem dX12_atom_82 : decode cX12_atom 82 = .ok (.goto 7, 3) := by decide +kernel
theorem dX12_atom_85 : decode cX12_atom 85 = .ok (.aload_n 0, 1) := by decide +kernel
theorem dX12_atom_86 : decode cX12_atom 86 = .ok (.invokevirtual 134, 3) := by decide +kernel
theorem dX12_atom_89 : decode cX12_atom 89 = .ok (.return_, 1) := by decide +kernel
theorem dX12_term_0 : decode cX12_term 0 = .ok (.aload_n 0, 1) := by decide +kernel
theorem dX12_term_1 : decode cX12_term 1 = .ok (.invokevirtual 165, 3) := by decide +kernel
theorem dX12_term_4 : decode cX12_term 4 = .ok (.aload_n 0, 1) := by decide +kernel
theorem dX12_term_5 : decode cX12_term 5 = .ok (.getfield 125, 3) := by decide +kernel
theorem dX12_term_8 : decode cX12_term 8 = .ok (.iconst (-1), 1) := by decide +kernel
theorem dX12_term_9 : decode cX12_term 9 = .ok (.if_icmp .ne 10, 3) := by decide +kernel
theorem dX12_term_12 : decode cX12_term 12 = .ok (.aload_n 0, 1) := by decide +kernel
theorem dX12_term_13 : decode cX12_term 13 = .ok (.invokevirtual 137, 3) := by decide +kernel
theorem dX12_term_16 : decode cX12_term 16 = .ok (.goto 4, 3) := by decide +kernel
theorem dX12_term_19 : decode cX12_term 19 = .ok (.iconst (-1), 1) := by decide +kernel
theorem dX12_term_20 : decode cX12_term 20 = .ok (.istore_n 1, 1) := by decide +kernel
theorem dX12_term_21 : decode cX12_term 21 = .ok (.iload_n 1, 1) := by decide +kernel
theorem dX12_term_22 : decode cX12_term 22 = .ok (.bipush 42, 2) := by decide +kernel
theorem dX12_term_24 : decode cX12_term 24 = .ok (.if_icmp .eq 9, 3) := by decide +kernel
theorem dX12_term_27 : decode cX12_term 27 = .ok (.iload_n 1, 1) := by decide +kernel
theorem dX12_term_28 : decode cX12_term 28 = .ok (.bipush 47, 2) := by decide +kernel
theorem dX12_term_30 : decode cX12_term 30 = .ok (.if_icmp .ne 53, 3) := by decide +kernel
theorem dX12_term_33 : decode cX12_term 33 = .ok (.aload_n 0, 1) := by decide +kernel
theorem dX12_term_34 : decode cX12_term 34 = .ok (.dup, 1) := by decide +kernel
theorem dX12_term_35 : decode cX12_term 35 = .ok (.getfield 118, 3) := by decide +kernel
theorem dX12_term_38 : decode cX12_term 38 = .ok (.iconst 1, 1) := by decide +kernel
theorem dX12_term_39 : decode cX12_term 39 = .ok (.iadd, 1) := by decide +kernel
theorem dX12_term_40 : decode cX12_term 40 = .ok (.putfield 118, 3) := by decide +kernel
theorem dX12_term_43 : decode cX12_term 43 = .ok (.aload_n 0, 1) := by decide +kernel
theorem dX12_term_44 : decode cX12_term 44 = .ok (.invokevirtual 165, 3) := by decide +kernel
theorem dX12_term_47 : decode cX12_term 47 = .ok (.aload_n 0, 1) := by decide +kernel
theorem dX12_term_48 : decode cX12_term 48 = .ok (.iload_n 1, 1) := by decide +kernel
theorem dX12_term_49 : decode cX12_term 49 = .ok (.bipush 42, 2) := by decide +kernel
theorem dX12_term_51 : decode cX12_term 51 = .ok (.if_icmp .ne 7, 3) := by decide +kernel
theorem dX12_term_54 : decode cX12_term 54 = .ok (.iconst 4, 1) := by decide +kernel
theorem dX12_term_55 : decode cX12_term 55 = .ok (.goto 4, 3) := by decide +kernel
theorem dX12_term_58 : decode cX12_term 58 = .ok (.iconst 5, 1) := by decide +kernel
theorem dX12_term_59 : decode cX12_term 59 = .ok (.iconst 0, 1) := by decide +kernel
theorem dX12_term_60 : decode cX12_term 60 = .ok (.invokevirtual 147, 3) := by decide +kernel
theorem dX12_term_63 : decode cX12_term 63 = .ok (.aload_n 0, 1) := by decide +kernel
theorem dX12_term_64 : decode cX12_term 64 = .ok (.getfield 125, 3) := by decide +kernel
theorem dX12_term_67 : decode cX12_term 67 = .ok (.iconst (-1), 1) := by decide +kernel
theorem dX12_term_68 : decode cX12_term 68 = .ok (.if_icmp .ne 10, 3) := by decide +kernel
theorem dX12_term_71 : decode cX12_term 71 = .ok (.aload_n 0, 1) := by decide +kernel
theorem dX12_term_72 : decode cX12_term 72 = .ok (.invokevirtual 137, 3) := by decide +kernel
theorem dX12_term_75 : decode cX12_term 75 = .ok (.goto 4, 3) := by decide +kernel
theorem dX12_term_78 : decode cX12_term 78 = .ok (.iconst (-1), 1) := by decide +kernel
theorem dX12_term_79 : decode cX12_term 79 = .ok (.istore_n 1, 1) := by decide +kernel
theorem dX12_term_80 : decode cX12_term 80 = .ok (.goto (-59), 3) := by decide +kernel
theorem dX12_term_83 : decode cX12_term 83 = .ok (.return_, 1) := by decide +kernel
theorem dX12_sum_0 : decode cX12_sum 0 = .ok (.aload_n 0, 1) := by decide +kernel
theorem dX12_sum_1 : decode cX12_sum 1 = .ok (.invokevirtual 168, 3) := by decide +kernel
theorem dX12_sum_4 : decode cX12_sum 4 = .ok (.aload_n 0, 1) := by decide +kernel
theorem dX12_sum_5 : decode cX12_sum 5 = .ok (.getfield 125, 3) := by decide +kernel
theorem dX12_sum_8 : decode cX12_sum 8 = .ok (.iconst (-1), 1) := by decide +kernel
theorem dX12_sum_9 : decode cX12_sum 9 = .ok (.if_icmp .ne 10, 3) := by decide +kernel
theorem dX12_sum_12 : decode cX12_sum 12 = .ok (.aload_n 0, 1) := by decide +kernel
theorem dX12_sum_13 : decode cX12_sum 13 = .ok (.invokevirtual 137, 3) := by decide +kernel
theorem dX12_sum_16 : decode cX12_sum 16 = .ok (.goto 4, 3) := by decide +kernel
theorem dX12_sum_19 : decode cX12_sum 19 = .ok (.iconst (-1), 1) := by decide +kernel
theorem dX12_sum_20 : decode cX12_sum 20 = .ok (.istore_n 1, 1) := by decide +kernel
theorem dX12_sum_21 : decode cX12_sum 21 = .ok (.iload_n 1, 1) := by decide +kernel
theorem dX12_sum_22 : decode cX12_sum 22 = .ok (.bipush 43, 2) := by decide +kernel
theorem dX12_sum_24 : decode cX12_sum 24 = .ok (.if_icmp .eq 9, 3) := by decide +kernel
theorem dX12_sum_27 : decode cX12_sum 27 = .ok (.iload_n 1, 1) := by decide +kernel
theorem dX12_sum_28 : decode cX12_sum 28 = .ok (.bipush 45, 2) := by decide +kernel
theorem dX12_sum_30 : decode cX12_sum 30 = .ok (.if_icmp .ne 53, 3) := by decide +kernel
theorem dX12_sum_33 : decode cX12_sum 33 = .ok (.aload_n 0, 1) := by decide +kernel
theorem dX12_sum_34 : decode cX12_sum 34 = .ok (.dup, 1) := by decide +kernel
theorem dX12_sum_35 : decode cX12_sum 35 = .ok (.getfield 118, 3) := by decide +kernel
theorem dX12_sum_38 : decode cX12_sum 38 = .ok (.iconst 1, 1) := by decide +kernel
theorem dX12_sum_39 : decode cX12_sum 39 = .ok (.iadd, 1) := by decide +kernel
theorem dX12_sum_40 : decode cX12_sum 40 = .ok (.putfield 118, 3) := by decide +kernel
theorem dX12_sum_43 : decode cX12_sum 43 = .ok (.aload_n 0, 1) := by decide +kernel
theorem dX12_sum_44 : decode cX12_sum 44 = .ok (.invokevirtual 168, 3) := by decide +kernel
theorem dX12_sum_47 : decode cX12_sum 47 = .ok (.aload_n 0, 1) := by decide +kernel
theorem dX12_sum_48 : decode cX12_sum 48 = .ok (.iload_n 1, 1) := by decide +kernel
theorem dX12_sum_49 : decode cX12_sum 49 = .ok (.bipush 43, 2) := by decide +kernel
theorem dX12_sum_51 : decode cX12_sum 51 = .ok (.if_icmp .ne 7, 3) := by decide +kernel
theorem dX12_sum_54 : decode cX12_sum 54 = .ok (.iconst 2, 1) := by decide +kernel
theorem dX12_sum_55 : decode cX12_sum 55 = .ok (.goto 4, 3) := by decide +kernel
theorem dX12_sum_58 : decode cX12_sum 58 = .ok (.iconst 3, 1) := by decide +kernel
theorem dX12_sum_59 : decode cX12_sum 59 = .ok (.iconst 0, 1) := by decide +kernel
theorem dX12_sum_60 : decode cX12_sum 60 = .ok (.invokevirtual 147, 3) := by decide +kernel
theorem dX12_sum_63 : decode cX12_sum 63 = .ok (.aload_n 0, 1) := by decide +kernel
theorem dX12_sum_64 : decode cX12_sum 64 = .ok (.getfield 125, 3) := by decide +kernel
theorem dX12_sum_67 : decode cX12_sum 67 = .ok (.iconst (-1), 1) := by decide +kernel
theorem dX12_sum_68 : decode cX12_sum 68 = .ok (.if_icmp .ne 10, 3) := by decide +kernel
theorem dX12_sum_71 : decode cX12_sum 71 = .ok (.aload_n 0, 1) := by decide +kernel
theorem dX12_sum_72 : decode cX12_sum 72 = .ok (.invokevirtual 137, 3) := by decide +kernel
theorem dX12_sum_75 : decode cX12_sum 75 = .ok (.goto 4, 3) := by decide +kernel
theorem dX12_sum_78 : decode cX12_sum 78 = .ok (.iconst (-1), 1) := by decide +kernel
theorem dX12_sum_79 : decode cX12_sum 79 = .ok (.istore_n 1, 1) := by decide +kernel
theorem dX12_sum_80 : decode cX12_sum 80 = .ok (.goto (-59), 3) := by decide +kernel
theorem dX12_sum_83 : decode cX12_sum 83 = .ok (.return_, 1) := by decide +kernel
theorem dX12_isSign_0 : decode cX12_isSign 0 = .ok (.iload_n 0, 1) := by decide +kernel
theorem dX12_isSign_1 : decode cX12_isSign 1 = .ok (.bipush 61, 2) := by decide +kernel
theorem dX12_isSign_3 : decode cX12_isSign 3 = .ok (.if_icmp .eq 15, 3) := by decide +kernel
theorem dX12_isSign_6 : decode cX12_isSign 6 = .ok (.iload_n 0, 1) := by decide +kernel
theorem dX12_isSign_7 : decode cX12_isSign 7 = .ok (.bipush 60, 2) := by decide +kernel
theorem dX12_isSign_9 : decode cX12_isSign 9 = .ok (.if_icmp .eq 9, 3) := by decide +kernel
theorem dX12_isSign_12 : decode cX12_isSign 12 = .ok (.iload_n 0, 1) := by decide +kernel
theorem dX12_isSign_13 : decode cX12_isSign 13 = .ok (.bipush 62, 2) := by decide +kernel
theorem dX12_isSign_15 : decode cX12_isSign 15 = .ok (.if_icmp .ne 7, 3) := by decide +kernel
theorem dX12_isSign_18 : decode cX12_isSign 18 = .ok (.iconst 1, 1) := by decide +kernel
theorem dX12_isSign_19 : decode cX12_isSign 19 = .ok (.goto 4, 3) := by decide +kernel
theorem dX12_isSign_22 : decode cX12_isSign 22 = .ok (.iconst 0, 1) := by decide +kernel
theorem dX12_isSign_23 : decode cX12_isSign 23 = .ok (.ireturn, 1) := by decide +kernel
theorem dX12_compare_0 : decode cX12_compare 0 = .ok (.aload_n 0, 1) := by decide +kernel
theorem dX12_compare_1 : decode cX12_compare 1 = .ok (.getfield 125, 3) := by decide +kernel
theorem dX12_compare_4 : decode cX12_compare 4 = .ok (.iconst (-1), 1) := by decide +kernel
theorem dX12_compare_5 : decode cX12_compare 5 = .ok (.if_icmp .ne 10, 3) := by decide +kernel
theorem dX12_compare_8 : decode cX12_compare 8 = .ok (.aload_n 0, 1) := by decide +kernel
theorem dX12_compare_9 : decode cX12_compare 9 = .ok (.invokevirtual 137, 3) := by decide +kernel
theorem dX12_compare_12 : decode cX12_compare 12 = .ok (.goto 4, 3) := by decide +kernel
theorem dX12_compare_15 : decode cX12_compare 15 = .ok (.iconst (-1), 1) := by decide +kernel
theorem dX12_compare_16 : decode cX12_compare 16 = .ok (.istore_n 1, 1) := by decide +kernel
theorem dX12_compare_17 : decode cX12_compare 17 = .ok (.iload_n 1, 1) := by decide +kernel
theorem dX12_compare_18 : decode cX12_compare 18 = .ok (.invokestatic 171, 3) := by decide +kernel
theorem dX12_compare_21 : decode cX12_compare 21 = .ok (.ifCond .ne 8, 3) := by decide +kernel
theorem dX12_compare_24 : decode cX12_compare 24 = .ok (.aload_n 0, 1) := by decide +kernel
theorem dX12_compare_25 : decode cX12_compare 25 = .ok (.invokevirtual 134, 3) := by decide +kernel
theorem dX12_compare_28 : decode cX12_compare 28 = .ok (.return_, 1) := by decide +kernel
theorem dX12_compare_29 : decode cX12_compare 29 = .ok (.aload_n 0, 1) := by decide +kernel
theorem dX12_compare_30 : decode cX12_compare 30 = .ok (.dup, 1) := by decide +kernel
theorem dX12_compare_31 : decode cX12_compare 31 = .ok (.getfield 118, 3) := by decide +kernel
theorem dX12_compare_34 : decode cX12_compare 34 = .ok (.iconst 1, 1) := by decide +kernel
theorem dX12_compare_35 : decode cX12_compare 35 = .ok (.iadd, 1) := by decide +kernel
theorem dX12_compare_36 : decode cX12_compare 36 = .ok (.putfield 118, 3) := by decide +kernel
theorem dX12_compare_39 : decode cX12_compare 39 = .ok (.aload_n 0, 1) := by decide +kernel
theorem dX12_compare_40 : decode cX12_compare 40 = .ok (.invokevirtual 158, 3) := by decide +kernel
theorem dX12_compare_43 : decode cX12_compare 43 = .ok (.aload_n 0, 1) := by decide +kernel
theorem dX12_compare_44 : decode cX12_compare 44 = .ok (.iload_n 1, 1) := by decide +kernel
theorem dX12_compare_45 : decode cX12_compare 45 = .ok (.bipush 61, 2) := by decide +kernel
theorem dX12_compare_47 : decode cX12_compare 47 = .ok (.if_icmp .ne 8, 3) := by decide +kernel
theorem dX12_compare_50 : decode cX12_compare 50 = .ok (.bipush 6, 2) := by decide +kernel
theorem dX12_compare_52 : decode cX12_compare 52 = .ok (.goto 16, 3) := by decide +kernel
theorem dX12_compare_55 : decode cX12_compare 55 = .ok (.iload_n 1, 1) := by decide +kernel
theorem dX12_compare_56 : decode cX12_compare 56 = .ok (.bipush 60, 2) := by decide +kernel
theorem dX12_compare_58 : decode cX12_compare 58 = .ok (.if_icmp .ne 8, 3) := by decide +kernel
theorem dX12_compare_61 : decode cX12_compare 61 = .ok (.bipush 7, 2) := by decide +kernel
theorem dX12_compare_63 : decode cX12_compare 63 = .ok (.goto 5, 3) := by decide +kernel
theorem dX12_compare_66 : decode cX12_compare 66 = .ok (.bipush 8, 2) := by decide +kernel
theorem dX12_compare_68 : decode cX12_compare 68 = .ok (.iconst 0, 1) := by decide +kernel
theorem dX12_compare_69 : decode cX12_compare 69 = .ok (.invokevirtual 147, 3) := by decide +kernel
theorem dX12_compare_72 : decode cX12_compare 72 = .ok (.return_, 1) := by decide +kernel
theorem dX12_unit_0 : decode cX12_unit 0 = .ok (.aload_n 0, 1) := by decide +kernel
theorem dX12_unit_1 : decode cX12_unit 1 = .ok (.invokevirtual 137, 3) := by decide +kernel
theorem dX12_unit_4 : decode cX12_unit 4 = .ok (.istore_n 1, 1) := by decide +kernel
theorem dX12_unit_5 : decode cX12_unit 5 = .ok (.iload_n 1, 1) := by decide +kernel
theorem dX12_unit_6 : decode cX12_unit 6 = .ok (.bipush 33, 2) := by decide +kernel
theorem dX12_unit_8 : decode cX12_unit 8 = .ok (.if_icmp .ne 39, 3) := by decide +kernel
theorem dX12_unit_11 : decode cX12_unit 11 = .ok (.aload_n 0, 1) := by decide +kernel
theorem dX12_unit_12 : decode cX12_unit 12 = .ok (.invokevirtual 155, 3) := by decide +kernel
theorem dX12_unit_15 : decode cX12_unit 15 = .ok (.aload_n 0, 1) := by decide +kernel
theorem dX12_unit_16 : decode cX12_unit 16 = .ok (.getfield 125, 3) := by decide +kernel
theorem dX12_unit_19 : decode cX12_unit 19 = .ok (.iconst (-1), 1) := by decide +kernel
theorem dX12_unit_20 : decode cX12_unit 20 = .ok (.if_icmp .ne 74, 3) := by decide +kernel
theorem dX12_unit_23 : decode cX12_unit 23 = .ok (.aload_n 0, 1) := by decide +kernel
theorem dX12_unit_24 : decode cX12_unit 24 = .ok (.invokevirtual 174, 3) := by decide +kernel
theorem dX12_unit_27 : decode cX12_unit 27 = .ok (.aload_n 0, 1) := by decide +kernel
theorem dX12_unit_28 : decode cX12_unit 28 = .ok (.bipush 9, 2) := by decide +kernel
theorem dX12_unit_30 : decode cX12_unit 30 = .ok (.iconst 0, 1) := by decide +kernel
theorem dX12_unit_31 : decode cX12_unit 31 = .ok (.invokevirtual 147, 3) := by decide +kernel
theorem dX12_unit_34 : decode cX12_unit 34 = .ok (.aload_n 0, 1) := by decide +kernel
theorem dX12_unit_35 : decode cX12_unit 35 = .ok (.dup, 1) := by decide +kernel
theorem dX12_unit_36 : decode cX12_unit 36 = .ok (.getfield 131, 3) := by decide +kernel
theorem dX12_unit_39 : decode cX12_unit 39 = .ok (.iconst 1, 1) := by decide +kernel
theorem dX12_unit_40 : decode cX12_unit 40 = .ok (.isub, 1) := by decide +kernel
theorem dX12_unit_41 : decode cX12_unit 41 = .ok (.putfield 131, 3) := by decide +kernel
theorem dX12_unit_44 : decode cX12_unit 44 = .ok (.goto 50, 3) := by decide +kernel
theorem dX12_unit_47 : decode cX12_unit 47 = .ok (.iload_n 1, 1) := by decide +kernel
theorem dX12_unit_48 : decode cX12_unit 48 = .ok (.bipush 40, 2) := by decide +kernel
theorem dX12_unit_50 : decode cX12_unit 50 = .ok (.if_icmp .ne 28, 3) := by decide +kernel
theorem dX12_unit_53 : decode cX12_unit 53 = .ok (.aload_n 0, 1) := by decide +kernel
theorem dX12_unit_54 : decode cX12_unit 54 = .ok (.invokevirtual 155, 3) := by decide +kernel
theorem dX12_unit_57 : decode cX12_unit 57 = .ok (.aload_n 0, 1) := by decide +kernel
theorem dX12_unit_58 : decode cX12_unit 58 = .ok (.getfield 125, 3) := by decide +kernel
theorem dX12_unit_61 : decode cX12_unit 61 = .ok (.iconst (-1), 1) := by decide +kernel
theorem dX12_unit_62 : decode cX12_unit 62 = .ok (.if_icmp .ne 32, 3) := by decide +kernel
theorem dX12_unit_65 : decode cX12_unit 65 = .ok (.aload_n 0, 1) := by decide +kernel
theorem dX12_unit_66 : decode cX12_unit 66 = .ok (.invokevirtual 177, 3) := by decide +kernel
theorem dX12_unit_69 : decode cX12_unit 69 = .ok (.aload_n 0, 1) := by decide +kernel
theorem dX12_unit_70 : decode cX12_unit 70 = .ok (.bipush 41, 2) := by decide +kernel
theorem dX12_unit_72 : decode cX12_unit 72 = .ok (.invokevirtual 161, 3) := by decide +kernel
theorem dX12_unit_75 : decode cX12_unit 75 = .ok (.goto 19, 3) := by decide +kernel
theorem dX12_unit_78 : decode cX12_unit 78 = .ok (.aload_n 0, 1) := by decide +kernel
theorem dX12_unit_79 : decode cX12_unit 79 = .ok (.invokevirtual 158, 3) := by decide +kernel
theorem dX12_unit_82 : decode cX12_unit 82 = .ok (.aload_n 0, 1) := by decide +kernel
theorem dX12_unit_83 : decode cX12_unit 83 = .ok (.getfield 125, 3) := by decide +kernel
theorem dX12_unit_86 : decode cX12_unit 86 = .ok (.iconst (-1), 1) := by decide +kernel
theorem dX12_unit_87 : decode cX12_unit 87 = .ok (.if_icmp .ne 7, 3) := by decide +kernel
theorem dX12_unit_90 : decode cX12_unit 90 = .ok (.aload_n 0, 1) := by decide +kernel
theorem dX12_unit_91 : decode cX12_unit 91 = .ok (.invokevirtual 180, 3) := by decide +kernel
theorem dX12_unit_94 : decode cX12_unit 94 = .ok (.return_, 1) := by decide +kernel
theorem dX12_goOnAnd_0 : decode cX12_goOnAnd 0 = .ok (.aload_n 0, 1) := by decide +kernel
theorem dX12_goOnAnd_1 : decode cX12_goOnAnd 1 = .ok (.getfield 125, 3) := by decide +kernel
theorem dX12_goOnAnd_4 : decode cX12_goOnAnd 4 = .ok (.iconst (-1), 1) := by decide +kernel
theorem dX12_goOnAnd_5 : decode cX12_goOnAnd 5 = .ok (.if_icmp .ne 36, 3) := by decide +kernel
theorem dX12_goOnAnd_8 : decode cX12_goOnAnd 8 = .ok (.aload_n 0, 1) := by decide +kernel
theorem dX12_goOnAnd_9 : decode cX12_goOnAnd 9 = .ok (.invokevirtual 137, 3) := by decide +kernel
theorem dX12_goOnAnd_12 : decode cX12_goOnAnd 12 = .ok (.bipush 38, 2) := by decide +kernel
theorem dX12_goOnAnd_14 : decode cX12_goOnAnd 14 = .ok (.if_icmp .ne 27, 3) := by decide +kernel
theorem dX12_goOnAnd_17 : decode cX12_goOnAnd 17 = .ok (.aload_n 0, 1) := by decide +kernel
theorem dX12_goOnAnd_18 : decode cX12_goOnAnd 18 = .ok (.dup, 1) := by decide +kernel
theorem dX12_goOnAnd_19 : decode cX12_goOnAnd 19 = .ok (.getfield 118, 3) := by decide +kernel
theorem dX12_goOnAnd_22 : decode cX12_goOnAnd 22 = .ok (.iconst 1, 1) := by decide +kernel
theorem dX12_goOnAnd_23 : decode cX12_goOnAnd 23 = .ok (.iadd, 1) := by decide +kernel
theorem dX12_goOnAnd_24 : decode cX12_goOnAnd 24 = .ok (.putfield 118, 3) := by decide +kernel
theorem dX12_goOnAnd_27 : decode cX12_goOnAnd 27 = .ok (.aload_n 0, 1) := by decide +kernel
theorem dX12_goOnAnd_28 : decode cX12_goOnAnd 28 = .ok (.invokevirtual 174, 3) := by decide +kernel
theorem dX12_goOnAnd_31 : decode cX12_goOnAnd 31 = .ok (.aload_n 0, 1) := by decide +kernel
theorem dX12_goOnAnd_32 : decode cX12_goOnAnd 32 = .ok (.bipush 10, 2) := by decide +kernel
theorem dX12_goOnAnd_34 : decode cX12_goOnAnd 34 = .ok (.iconst 0, 1) := by decide +kernel
theorem dX12_goOnAnd_35 : decode cX12_goOnAnd 35 = .ok (.invokevirtual 147, 3) := by decide +kernel
theorem dX12_goOnAnd_38 : decode cX12_goOnAnd 38 = .ok (.goto (-38), 3) := by decide +kernel
theorem dX12_goOnAnd_41 : decode cX12_goOnAnd 41 = .ok (.return_, 1) := by decide +kernel
theorem dX12_goOnOr_0 : decode cX12_goOnOr 0 = .ok (.aload_n 0, 1) := by decide +kernel
theorem dX12_goOnOr_1 : decode cX12_goOnOr 1 = .ok (.getfield 125, 3) := by decide +kernel
theorem dX12_goOnOr_4 : decode cX12_goOnOr 4 = .ok (.iconst (-1), 1) := by decide +kernel
theorem dX12_goOnOr_5 : decode cX12_goOnOr 5 = .ok (.if_icmp .ne 40, 3) := by decide +kernel
theorem dX12_goOnOr_8 : decode cX12_goOnOr 8 = .ok (.aload_n 0, 1) := by decide +kernel
theorem dX12_goOnOr_9 : decode cX12_goOnOr 9 = .ok (.invokevirtual 137, 3) := by decide +kernel
theorem dX12_goOnOr_12 : decode cX12_goOnOr 12 = .ok (.bipush 124, 2) := by decide +kernel
theorem dX12_goOnOr_14 : decode cX12_goOnOr 14 = .ok (.if_icmp .ne 31, 3) := by decide +kernel
theorem dX12_goOnOr_17 : decode cX12_goOnOr 17 = .ok (.aload_n 0, 1) := by decide +kernel
theorem dX12_goOnOr_18 : decode cX12_goOnOr 18 = .ok (.dup, 1) := by decide +kernel
theorem dX12_goOnOr_19 : decode cX12_goOnOr 19 = .ok (.getfield 118, 3) := by decide +kernel
theorem dX12_goOnOr_22 : decode cX12_goOnOr 22 = .ok (.iconst 1, 1) := by decide +kernel
theorem dX12_goOnOr_23 : decode cX12_goOnOr 23 = .ok (.iadd, 1) := by decide +kernel
theorem dX12_goOnOr_24 : decode cX12_goOnOr 24 = .ok (.putfield 118, 3) := by decide +kernel
theorem dX12_goOnOr_27 : decode cX12_goOnOr 27 = .ok (.aload_n 0, 1) := by decide +kernel
theorem dX12_goOnOr_28 : decode cX12_goOnOr 28 = .ok (.invokevirtual 174, 3) := by decide +kernel
theorem dX12_goOnOr_31 : decode cX12_goOnOr 31 = .ok (.aload_n 0, 1) := by decide +kernel
theorem dX12_goOnOr_32 : decode cX12_goOnOr 32 = .ok (.invokevirtual 183, 3) := by decide +kernel
theorem dX12_goOnOr_35 : decode cX12_goOnOr 35 = .ok (.aload_n 0, 1) := by decide +kernel
theorem dX12_goOnOr_36 : decode cX12_goOnOr 36 = .ok (.bipush 11, 2) := by decide +kernel
theorem dX12_goOnOr_38 : decode cX12_goOnOr 38 = .ok (.iconst 0, 1) := by decide +kernel
theorem dX12_goOnOr_39 : decode cX12_goOnOr 39 = .ok (.invokevirtual 147, 3) := by decide +kernel
theorem dX12_goOnOr_42 : decode cX12_goOnOr 42 = .ok (.goto (-42), 3) := by decide +kernel
theorem dX12_goOnOr_45 : decode cX12_goOnOr 45 = .ok (.return_, 1) := by decide +kernel
theorem dX12_condition_0 : decode cX12_condition 0 = .ok (.aload_n 0, 1) := by decide +kernel
theorem dX12_condition_1 : decode cX12_condition 1 = .ok (.invokevirtual 174, 3) := by decide +kernel
theorem dX12_condition_4 : decode cX12_condition 4 = .ok (.aload_n 0, 1) := by decide +kernel
theorem dX12_condition_5 : decode cX12_condition 5 = .ok (.invokevirtual 183, 3) := by decide +kernel
theorem dX12_condition_8 : decode cX12_condition 8 = .ok (.aload_n 0, 1) := by decide +kernel
theorem dX12_condition_9 : decode cX12_condition 9 = .ok (.invokevirtual 186, 3) := by decide +kernel
theorem dX12_condition_12 : decode cX12_condition 12 = .ok (.return_, 1) := by decide +kernel
theorem dX12_clause_0 : decode cX12_clause 0 = .ok (.sipush 140, 3) := by decide +kernel
theorem dX12_clause_3 : decode cX12_clause 3 = .ok (.aload_n 0, 1) := by decide +kernel
theorem dX12_clause_4 : decode cX12_clause 4 = .ok (.getfield 128, 3) := by decide +kernel
theorem dX12_clause_7 : decode cX12_clause 7 = .ok (.imul, 1) := by decide +kernel
theorem dX12_clause_8 : decode cX12_clause 8 = .ok (.aload_n 0, 1) := by decide +kernel
theorem dX12_clause_9 : decode cX12_clause 9 = .ok (.getfield 22, 3) := by decide +kernel
theorem dX12_clause_12 : decode cX12_clause 12 = .ok (.aload_n 0, 1) := by decide +kernel
theorem dX12_clause_13 : decode cX12_clause 13 = .ok (.getfield 128, 3) := by decide +kernel
theorem dX12_clause_16 : decode cX12_clause 16 = .ok (.iaload, 1) := by decide +kernel
theorem dX12_clause_17 : decode cX12_clause 17 = .ok (.iadd, 1) := by decide +kernel
theorem dX12_clause_18 : decode cX12_clause 18 = .ok (.istore_n 1, 1) := by decide +kernel
theorem dX12_clause_19 : decode cX12_clause 19 = .ok (.aload_n 0, 1) := by decide +kernel
theorem dX12_clause_20 : decode cX12_clause 20 = .ok (.getfield 125, 3) := by decide +kernel
theorem dX12_clause_23 : decode cX12_clause 23 = .ok (.iconst (-1), 1) := by decide +kernel
theorem dX12_clause_24 : decode cX12_clause 24 = .ok (.if_icmp .ne 16, 3) := by decide +kernel
theorem dX12_clause_27 : decode cX12_clause 27 = .ok (.aload_n 0, 1) := by decide +kernel
theorem dX12_clause_28 : decode cX12_clause 28 = .ok (.invokevirtual 137, 3) := by decide +kernel
theorem dX12_clause_31 : decode cX12_clause 31 = .ok (.bipush 121, 2) := by decide +kernel
theorem dX12_clause_33 : decode cX12_clause 33 = .ok (.if_icmp .eq 7, 3) := by decide +kernel
theorem dX12_clause_36 : decode cX12_clause 36 = .ok (.aload_n 0, 1) := by decide +kernel
theorem dX12_clause_37 : decode cX12_clause 37 = .ok (.invokevirtual 134, 3) := by decide +kernel
theorem dX12_clause_40 : decode cX12_clause 40 = .ok (.aload_n 0, 1) := by decide +kernel
theorem dX12_clause_41 : decode cX12_clause 41 = .ok (.dup, 1) := by decide +kernel
theorem dX12_clause_42 : decode cX12_clause 42 = .ok (.getfield 118, 3) := by decide +kernel
theorem dX12_clause_45 : decode cX12_clause 45 = .ok (.iconst 1, 1) := by decide +kernel
theorem dX12_clause_46 : decode cX12_clause 46 = .ok (.iadd, 1) := by decide +kernel
theorem dX12_clause_47 : decode cX12_clause 47 = .ok (.putfield 118, 3) := by decide +kernel
theorem dX12_clause_50 : decode cX12_clause 50 = .ok (.aload_n 0, 1) := by decide +kernel
theorem dX12_clause_51 : decode cX12_clause 51 = .ok (.getfield 125, 3) := by decide +kernel
theorem dX12_clause_54 : decode cX12_clause 54 = .ok (.iconst (-1), 1) := by decide +kernel
theorem dX12_clause_55 : decode cX12_clause 55 = .ok (.if_icmp .ne 16, 3) := by decide +kernel
theorem dX12_clause_58 : decode cX12_clause 58 = .ok (.aload_n 0, 1) := by decide +kernel
theorem dX12_clause_59 : decode cX12_clause 59 = .ok (.invokevirtual 137, 3) := by decide +kernel
theorem dX12_clause_62 : decode cX12_clause 62 = .ok (.bipush 58, 2) := by decide +kernel
theorem dX12_clause_64 : decode cX12_clause 64 = .ok (.if_icmp .eq 7, 3) := by decide +kernel
theorem dX12_clause_67 : decode cX12_clause 67 = .ok (.aload_n 0, 1) := by decide +kernel
theorem dX12_clause_68 : decode cX12_clause 68 = .ok (.invokevirtual 134, 3) := by decide +kernel
theorem dX12_clause_71 : decode cX12_clause 71 = .ok (.aload_n 0, 1) := by decide +kernel
theorem dX12_clause_72 : decode cX12_clause 72 = .ok (.dup, 1) := by decide +kernel
theorem dX12_clause_73 : decode cX12_clause 73 = .ok (.getfield 118, 3) := by decide +kernel
theorem dX12_clause_76 : decode cX12_clause 76 = .ok (.iconst 1, 1) := by decide +kernel
theorem dX12_clause_77 : decode cX12_clause 77 = .ok (.iadd, 1) := by decide +kernel
theorem dX12_clause_78 : decode cX12_clause 78 = .ok (.putfield 118, 3) := by decide +kernel
theorem dX12_clause_81 : decode cX12_clause 81 = .ok (.aload_n 0, 1) := by decide +kernel
theorem dX12_clause_82 : decode cX12_clause 82 = .ok (.getfield 125, 3) := by decide +kernel
theorem dX12_clause_85 : decode cX12_clause 85 = .ok (.iconst (-1), 1) := by decide +kernel
theorem dX12_clause_86 : decode cX12_clause 86 = .ok (.if_icmp .eq 4, 3) := by decide +kernel
theorem dX12_clause_89 : decode cX12_clause 89 = .ok (.return_, 1) := by decide +kernel
theorem dX12_clause_90 : decode cX12_clause 90 = .ok (.aload_n 0, 1) := by decide +kernel
theorem dX12_clause_91 : decode cX12_clause 91 = .ok (.getfield 25, 3) := by decide +kernel
theorem dX12_clause_94 : decode cX12_clause 94 = .ok (.iload_n 1, 1) := by decide +kernel
theorem dX12_clause_95 : decode cX12_clause 95 = .ok (.aload_n 0, 1) := by decide +kernel
theorem dX12_clause_96 : decode cX12_clause 96 = .ok (.getfield 19, 3) := by decide +kernel
theorem dX12_clause_99 : decode cX12_clause 99 = .ok (.aload_n 0, 1) := by decide +kernel
theorem dX12_clause_100 : decode cX12_clause 100 = .ok (.getfield 128, 3) := by decide +kernel
theorem dX12_clause_103 : decode cX12_clause 103 = .ok (.iaload, 1) := by decide +kernel
theorem dX12_clause_104 : decode cX12_clause 104 = .ok (.iastore, 1) := by decide +kernel
theorem dX12_clause_105 : decode cX12_clause 105 = .ok (.aload_n 0, 1) := by decide +kernel
theorem dX12_clause_106 : decode cX12_clause 106 = .ok (.invokevirtual 137, 3) := by decide +kernel
theorem dX12_clause_109 : decode cX12_clause 109 = .ok (.bipush 33, 2) := by decide +kernel
theorem dX12_clause_111 : decode cX12_clause 111 = .ok (.if_icmp .eq 12, 3) := by decide +kernel
theorem dX12_clause_114 : decode cX12_clause 114 = .ok (.aload_n 0, 1) := by decide +kernel
theorem dX12_clause_115 : decode cX12_clause 115 = .ok (.invokevirtual 137, 3) := by decide +kernel
theorem dX12_clause_118 : decode cX12_clause 118 = .ok (.bipush 40, 2) := by decide +kernel
theorem dX12_clause_120 : decode cX12_clause 120 = .ok (.if_icmp .ne 7, 3) := by decide +kernel
theorem dX12_clause_123 : decode cX12_clause 123 = .ok (.iconst 1, 1) := by decide +kernel
theorem dX12_clause_124 : decode cX12_clause 124 = .ok (.goto 4, 3) := by decide +kernel
theorem dX12_clause_127 : decode cX12_clause 127 = .ok (.iconst 0, 1) := by decide +kernel
theorem dX12_clause_128 : decode cX12_clause 128 = .ok (.istore_n 2, 1) := by decide +kernel
theorem dX12_clause_129 : decode cX12_clause 129 = .ok (.iload_n 2, 1) := by decide +kernel
theorem dX12_clause_130 : decode cX12_clause 130 = .ok (.ifCond .eq 10, 3) := by decide +kernel
theorem dX12_clause_133 : decode cX12_clause 133 = .ok (.aload_n 0, 1) := by decide +kernel
theorem dX12_clause_134 : decode cX12_clause 134 = .ok (.invokevirtual 177, 3) := by decide +kernel
theorem dX12_clause_137 : decode cX12_clause 137 = .ok (.goto 47, 3) := by decide +kernel
theorem dX12_clause_140 : decode cX12_clause 140 = .ok (.aload_n 0, 1) := by decide +kernel
theorem dX12_clause_141 : decode cX12_clause 141 = .ok (.invokevirtual 158, 3) := by decide +kernel
theorem dX12_clause_144 : decode cX12_clause 144 = .ok (.aload_n 0, 1) := by decide +kernel
theorem dX12_clause_145 : decode cX12_clause 145 = .ok (.getfield 125, 3) := by decide +kernel
theorem dX12_clause_148 : decode cX12_clause 148 = .ok (.iconst (-1), 1) := by decide +kernel
theorem dX12_clause_149 : decode cX12_clause 149 = .ok (.if_icmp .ne 17, 3) := by decide +kernel
theorem dX12_clause_152 : decode cX12_clause 152 = .ok (.aload_n 0, 1) := by decide +kernel
theorem dX12_clause_153 : decode cX12_clause 153 = .ok (.invokevirtual 137, 3) := by decide +kernel
theorem dX12_clause_156 : decode cX12_clause 156 = .ok (.invokestatic 171, 3) := by decide +kernel
theorem dX12_clause_159 : decode cX12_clause 159 = .ok (.ifCond .eq 7, 3) := by decide +kernel
theorem dX12_clause_162 : decode cX12_clause 162 = .ok (.iconst 1, 1) := by decide +kernel
theorem dX12_clause_163 : decode cX12_clause 163 = .ok (.goto 4, 3) := by decide +kernel
theorem dX12_clause_166 : decode cX12_clause 166 = .ok (.iconst 0, 1) := by decide +kernel
theorem dX12_clause_167 : decode cX12_clause 167 = .ok (.istore_n 2, 1) := by decide +kernel
theorem dX12_clause_168 : decode cX12_clause 168 = .ok (.iload_n 2, 1) := by decide +kernel
theorem dX12_clause_169 : decode cX12_clause 169 = .ok (.ifCond .eq 15, 3) := by decide +kernel
theorem dX12_clause_172 : decode cX12_clause 172 = .ok (.aload_n 0, 1) := by decide +kernel
theorem dX12_clause_173 : decode cX12_clause 173 = .ok (.invokevirtual 180, 3) := by decide +kernel
theorem dX12_clause_176 : decode cX12_clause 176 = .ok (.aload_n 0, 1) := by decide +kernel
theorem dX12_clause_177 : decode cX12_clause 177 = .ok (.invokevirtual 183, 3) := by decide +kernel
theorem dX12_clause_180 : decode cX12_clause 180 = .ok (.aload_n 0, 1) := by decide +kernel
theorem dX12_clause_181 : decode cX12_clause 181 = .ok (.invokevirtual 186, 3) := by decide +kernel
theorem dX12_clause_184 : decode cX12_clause 184 = .ok (.aload_n 0, 1) := by decide +kernel
theorem dX12_clause_185 : decode cX12_clause 185 = .ok (.getfield 28, 3) := by decide +kernel
theorem dX12_clause_188 : decode cX12_clause 188 = .ok (.iload_n 1, 1) := by decide +kernel
theorem dX12_clause_189 : decode cX12_clause 189 = .ok (.aload_n 0, 1) := by decide +kernel
theorem dX12_clause_190 : decode cX12_clause 190 = .ok (.getfield 25, 3) := by decide +kernel
theorem dX12_clause_193 : decode cX12_clause 193 = .ok (.iload_n 1, 1) := by decide +kernel
theorem dX12_clause_194 : decode cX12_clause 194 = .ok (.iaload, 1) := by decide +kernel
theorem dX12_clause_195 : decode cX12_clause 195 = .ok (.iastore, 1) := by decide +kernel
theorem dX12_clause_196 : decode cX12_clause 196 = .ok (.iload_n 2, 1) := by decide +kernel
theorem dX12_clause_197 : decode cX12_clause 197 = .ok (.ifCond .eq 54, 3) := by decide +kernel
theorem dX12_clause_200 : decode cX12_clause 200 = .ok (.aload_n 0, 1) := by decide +kernel
theorem dX12_clause_201 : decode cX12_clause 201 = .ok (.getfield 125, 3) := by decide +kernel
theorem dX12_clause_204 : decode cX12_clause 204 = .ok (.iconst (-1), 1) := by decide +kernel
theorem dX12_clause_205 : decode cX12_clause 205 = .ok (.if_icmp .ne 46, 3) := by decide +kernel
theorem dX12_clause_208 : decode cX12_clause 208 = .ok (.aload_n 0, 1) := by decide +kernel
theorem dX12_clause_209 : decode cX12_clause 209 = .ok (.invokevirtual 137, 3) := by decide +kernel
theorem dX12_clause_212 : decode cX12_clause 212 = .ok (.bipush 63, 2) := by decide +kernel
theorem dX12_clause_214 : decode cX12_clause 214 = .ok (.if_icmp .eq 8, 3) := by decide +kernel
theorem dX12_clause_217 : decode cX12_clause 217 = .ok (.aload_n 0, 1) := by decide +kernel
theorem dX12_clause_218 : decode cX12_clause 218 = .ok (.invokevirtual 134, 3) := by decide +kernel
theorem dX12_clause_221 : decode cX12_clause 221 = .ok (.return_, 1) := by decide +kernel
theorem dX12_clause_222 : decode cX12_clause 222 = .ok (.aload_n 0, 1) := by decide +kernel
theorem dX12_clause_223 : decode cX12_clause 223 = .ok (.dup, 1) := by decide +kernel
theorem dX12_clause_224 : decode cX12_clause 224 = .ok (.getfield 118, 3) := by decide +kernel
theorem dX12_clause_227 : decode cX12_clause 227 = .ok (.iconst 1, 1) := by decide +kernel
theorem dX12_clause_228 : decode cX12_clause 228 = .ok (.iadd, 1) := by decide +kernel
theorem dX12_clause_229 : decode cX12_clause 229 = .ok (.putfield 118, 3) := by decide +kernel
theorem dX12_clause_232 : decode cX12_clause 232 = .ok (.aload_n 0, 1) := by decide +kernel
theorem dX12_clause_233 : decode cX12_clause 233 = .ok (.getfield 28, 3) := by decide +kernel
theorem dX12_clause_236 : decode cX12_clause 236 = .ok (.iload_n 1, 1) := by decide +kernel
theorem dX12_clause_237 : decode cX12_clause 237 = .ok (.aload_n 0, 1) := by decide +kernel
theorem dX12_clause_238 : decode cX12_clause 238 = .ok (.getfield 19, 3) := by decide +kernel
theorem dX12_clause_241 : decode cX12_clause 241 = .ok (.aload_n 0, 1) := by decide +kernel
theorem dX12_clause_242 : decode cX12_clause 242 = .ok (.getfield 128, 3) := by decide +kernel
theorem dX12_clause_245 : decode cX12_clause 245 = .ok (.iaload, 1) := by decide +kernel
theorem dX12_clause_246 : decode cX12_clause 246 = .ok (.iastore, 1) := by decide +kernel
theorem dX12_clause_247 : decode cX12_clause 247 = .ok (.aload_n 0, 1) := by decide +kernel
theorem dX12_clause_248 : decode cX12_clause 248 = .ok (.invokevirtual 158, 3) := by decide +kernel
theorem dX12_clause_251 : decode cX12_clause 251 = .ok (.aload_n 0, 1) := by decide +kernel
theorem dX12_clause_252 : decode cX12_clause 252 = .ok (.getfield 31, 3) := by decide +kernel
theorem dX12_clause_255 : decode cX12_clause 255 = .ok (.iload_n 1, 1) := by decide +kernel
theorem dX12_clause_256 : decode cX12_clause 256 = .ok (.aload_n 0, 1) := by decide +kernel
theorem dX12_clause_257 : decode cX12_clause 257 = .ok (.getfield 19, 3) := by decide +kernel
theorem dX12_clause_260 : decode cX12_clause 260 = .ok (.aload_n 0, 1) := by decide +kernel
theorem dX12_clause_261 : decode cX12_clause 261 = .ok (.getfield 128, 3) := by decide +kernel
theorem dX12_clause_264 : decode cX12_clause 264 = .ok (.iaload, 1) := by decide +kernel
theorem dX12_clause_265 : decode cX12_clause 265 = .ok (.iastore, 1) := by decide +kernel
theorem dX12_clause_266 : decode cX12_clause 266 = .ok (.aload_n 0, 1) := by decide +kernel
theorem dX12_clause_267 : decode cX12_clause 267 = .ok (.getfield 22, 3) := by decide +kernel
theorem dX12_clause_270 : decode cX12_clause 270 = .ok (.aload_n 0, 1) := by decide +kernel
theorem dX12_clause_271 : decode cX12_clause 271 = .ok (.getfield 128, 3) := by decide +kernel
theorem dX12_clause_274 : decode cX12_clause 274 = .ok (.dup2, 1) := by decide +kernel
theorem dX12_clause_275 : decode cX12_clause 275 = .ok (.iaload, 1) := by decide +kernel
theorem dX12_clause_276 : decode cX12_clause 276 = .ok (.iconst 1, 1) := by decide +kernel
theorem dX12_clause_277 : decode cX12_clause 277 = .ok (.iadd, 1) := by decide +kernel
theorem dX12_clause_278 : decode cX12_clause 278 = .ok (.iastore, 1) := by decide +kernel
theorem dX12_clause_279 : decode cX12_clause 279 = .ok (.return_, 1) := by decide +kernel
theorem dX12_open_0 : decode cX12_open 0 = .ok (.aload_n 0, 1) := by decide +kernel
theorem dX12_open_1 : decode cX12_open 1 = .ok (.iload_n 1, 1) := by decide +kernel
theorem dX12_open_2 : decode cX12_open 2 = .ok (.putfield 128, 3) := by decide +kernel
theorem dX12_open_5 : decode cX12_open 5 = .ok (.aload_n 0, 1) := by decide +kernel
theorem dX12_open_6 : decode cX12_open 6 = .ok (.iconst 0, 1) := by decide +kernel
theorem dX12_open_7 : decode cX12_open 7 = .ok (.putfield 118, 3) := by decide +kernel
theorem dX12_open_10 : decode cX12_open 10 = .ok (.aload_n 0, 1) := by decide +kernel
theorem dX12_open_11 : decode cX12_open 11 = .ok (.iconst (-1), 1) := by decide +kernel
theorem dX12_open_12 : decode cX12_open 12 = .ok (.putfield 125, 3) := by decide +kernel
theorem dX12_open_15 : decode cX12_open 15 = .ok (.aload_n 0, 1) := by decide +kernel
theorem dX12_open_16 : decode cX12_open 16 = .ok (.iconst 0, 1) := by decide +kernel
theorem dX12_open_17 : decode cX12_open 17 = .ok (.putfield 131, 3) := by decide +kernel
theorem dX12_open_20 : decode cX12_open 20 = .ok (.aload_n 0, 1) := by decide +kernel
theorem dX12_open_21 : decode cX12_open 21 = .ok (.getfield 19, 3) := by decide +kernel
theorem dX12_open_24 : decode cX12_open 24 = .ok (.iload_n 1, 1) := by decide +kernel
theorem dX12_open_25 : decode cX12_open 25 = .ok (.iconst 0, 1) := by decide +kernel
theorem dX12_open_26 : decode cX12_open 26 = .ok (.iastore, 1) := by decide +kernel
theorem dX12_open_27 : decode cX12_open 27 = .ok (.aload_n 0, 1) := by decide +kernel
theorem dX12_open_28 : decode cX12_open 28 = .ok (.getfield 22, 3) := by decide +kernel
theorem dX12_open_31 : decode cX12_open 31 = .ok (.iload_n 1, 1) := by decide +kernel
theorem dX12_open_32 : decode cX12_open 32 = .ok (.iconst 0, 1) := by decide +kernel
theorem dX12_open_33 : decode cX12_open 33 = .ok (.iastore, 1) := by decide +kernel
theorem dX12_open_34 : decode cX12_open 34 = .ok (.return_, 1) := by decide +kernel
theorem dX12_atEnd_0 : decode cX12_atEnd 0 = .ok (.aload_n 0, 1) := by decide +kernel
theorem dX12_atEnd_1 : decode cX12_atEnd 1 = .ok (.getfield 125, 3) := by decide +kernel
theorem dX12_atEnd_4 : decode cX12_atEnd 4 = .ok (.iconst (-1), 1) := by decide +kernel
theorem dX12_atEnd_5 : decode cX12_atEnd 5 = .ok (.if_icmp .ne 15, 3) := by decide +kernel
theorem dX12_atEnd_8 : decode cX12_atEnd 8 = .ok (.aload_n 0, 1) := by decide +kernel
theorem dX12_atEnd_9 : decode cX12_atEnd 9 = .ok (.invokevirtual 137, 3) := by decide +kernel
theorem dX12_atEnd_12 : decode cX12_atEnd 12 = .ok (.iconst (-1), 1) := by decide +kernel
theorem dX12_atEnd_13 : decode cX12_atEnd 13 = .ok (.if_icmp .eq 7, 3) := by decide +kernel
theorem dX12_atEnd_16 : decode cX12_atEnd 16 = .ok (.aload_n 0, 1) := by decide +kernel
theorem dX12_atEnd_17 : decode cX12_atEnd 17 = .ok (.invokevirtual 134, 3) := by decide +kernel
theorem dX12_atEnd_20 : decode cX12_atEnd 20 = .ok (.aload_n 0, 1) := by decide +kernel
theorem dX12_atEnd_21 : decode cX12_atEnd 21 = .ok (.getfield 125, 3) := by decide +kernel
theorem dX12_atEnd_24 : decode cX12_atEnd 24 = .ok (.ireturn, 1) := by decide +kernel
theorem dX12_readLaw_0 : decode cX12_readLaw 0 = .ok (.aload_n 0, 1) := by decide +kernel
theorem dX12_readLaw_1 : decode cX12_readLaw 1 = .ok (.iload_n 1, 1) := by decide +kernel
theorem dX12_readLaw_2 : decode cX12_readLaw 2 = .ok (.invokevirtual 189, 3) := by decide +kernel
theorem dX12_readLaw_5 : decode cX12_readLaw 5 = .ok (.aload_n 0, 1) := by decide +kernel
theorem dX12_readLaw_6 : decode cX12_readLaw 6 = .ok (.invokevirtual 192, 3) := by decide +kernel
theorem dX12_readLaw_9 : decode cX12_readLaw 9 = .ok (.aload_n 0, 1) := by decide +kernel
theorem dX12_readLaw_10 : decode cX12_readLaw 10 = .ok (.getfield 125, 3) := by decide +kernel
theorem dX12_readLaw_13 : decode cX12_readLaw 13 = .ok (.iconst (-1), 1) := by decide +kernel
theorem dX12_readLaw_14 : decode cX12_readLaw 14 = .ok (.if_icmp .ne 29, 3) := by decide +kernel
theorem dX12_readLaw_17 : decode cX12_readLaw 17 = .ok (.aload_n 0, 1) := by decide +kernel
theorem dX12_readLaw_18 : decode cX12_readLaw 18 = .ok (.invokevirtual 137, 3) := by decide +kernel
theorem dX12_readLaw_21 : decode cX12_readLaw 21 = .ok (.bipush 59, 2) := by decide +kernel
theorem dX12_readLaw_23 : decode cX12_readLaw 23 = .ok (.if_icmp .ne 20, 3) := by decide +kernel
theorem dX12_readLaw_26 : decode cX12_readLaw 26 = .ok (.aload_n 0, 1) := by decide +kernel
theorem dX12_readLaw_27 : decode cX12_readLaw 27 = .ok (.dup, 1) := by decide +kernel
theorem dX12_readLaw_28 : decode cX12_readLaw 28 = .ok (.getfield 118, 3) := by decide +kernel
theorem dX12_readLaw_31 : decode cX12_readLaw 31 = .ok (.iconst 1, 1) := by decide +kernel
theorem dX12_readLaw_32 : decode cX12_readLaw 32 = .ok (.iadd, 1) := by decide +kernel
theorem dX12_readLaw_33 : decode cX12_readLaw 33 = .ok (.putfield 118, 3) := by decide +kernel
theorem dX12_readLaw_36 : decode cX12_readLaw 36 = .ok (.aload_n 0, 1) := by decide +kernel
theorem dX12_readLaw_37 : decode cX12_readLaw 37 = .ok (.invokevirtual 192, 3) := by decide +kernel
theorem dX12_readLaw_40 : decode cX12_readLaw 40 = .ok (.goto (-31), 3) := by decide +kernel
theorem dX12_readLaw_43 : decode cX12_readLaw 43 = .ok (.aload_n 0, 1) := by decide +kernel
theorem dX12_readLaw_44 : decode cX12_readLaw 44 = .ok (.invokevirtual 195, 3) := by decide +kernel
theorem dX12_readLaw_47 : decode cX12_readLaw 47 = .ok (.ireturn, 1) := by decide +kernel
theorem dX12_bounded_0 : decode cX12_bounded 0 = .ok (.ldc2_w 198, 3) := by decide +kernel
theorem dX12_bounded_3 : decode cX12_bounded 3 = .ok (.ldc2_w 200, 3) := by decide +kernel
theorem dX12_bounded_6 : decode cX12_bounded 6 = .ok (.lload_n 0, 1) := by decide +kernel
theorem dX12_bounded_7 : decode cX12_bounded 7 = .ok (.invokestatic 202, 3) := by decide +kernel
theorem dX12_bounded_10 : decode cX12_bounded 10 = .ok (.invokestatic 208, 3) := by decide +kernel
theorem dX12_bounded_13 : decode cX12_bounded 13 = .ok (.l2i, 1) := by decide +kernel
theorem dX12_bounded_14 : decode cX12_bounded 14 = .ok (.ireturn, 1) := by decide +kernel
theorem dX12_worked_0 : decode cX12_worked 0 = .ok (.iload_n 0, 1) := by decide +kernel
theorem dX12_worked_1 : decode cX12_worked 1 = .ok (.tableswitch 143 2 10 #[51, 58, 65, 72, 89, 101, 113, 143, 125], 51) := by decide +kernel
theorem dX12_worked_52 : decode cX12_worked 52 = .ok (.lload_n 1, 1) := by decide +kernel
theorem dX12_worked_53 : decode cX12_worked 53 = .ok (.lload_n 3, 1) := by decide +kernel
theorem dX12_worked_54 : decode cX12_worked 54 = .ok (.ladd, 1) := by decide +kernel
theorem dX12_worked_55 : decode cX12_worked 55 = .ok (.invokestatic 211, 3) := by decide +kernel
theorem dX12_worked_58 : decode cX12_worked 58 = .ok (.ireturn, 1) := by decide +kernel
theorem dX12_worked_59 : decode cX12_worked 59 = .ok (.lload_n 1, 1) := by decide +kernel
theorem dX12_worked_60 : decode cX12_worked 60 = .ok (.lload_n 3, 1) := by decide +kernel
theorem dX12_worked_61 : decode cX12_worked 61 = .ok (.lsub, 1) := by decide +kernel
theorem dX12_worked_62 : decode cX12_worked 62 = .ok (.invokestatic 211, 3) := by decide +kernel
theorem dX12_worked_65 : decode cX12_worked 65 = .ok (.ireturn, 1) := by decide +kernel
theorem dX12_worked_66 : decode cX12_worked 66 = .ok (.lload_n 1, 1) := by decide +kernel
theorem dX12_worked_67 : decode cX12_worked 67 = .ok (.lload_n 3, 1) := by decide +kernel
theorem dX12_worked_68 : decode cX12_worked 68 = .ok (.lmul, 1) := by decide +kernel
theorem dX12_worked_69 : decode cX12_worked 69 = .ok (.invokestatic 211, 3) := by decide +kernel
theorem dX12_worked_72 : decode cX12_worked 72 = .ok (.ireturn, 1) := by decide +kernel
theorem dX12_worked_73 : decode cX12_worked 73 = .ok (.lload_n 3, 1) := by decide +kernel
theorem dX12_worked_74 : decode cX12_worked 74 = .ok (.lconst 0, 1) := by decide +kernel
theorem dX12_worked_75 : decode cX12_worked 75 = .ok (.lcmp, 1) := by decide +kernel
theorem dX12_worked_76 : decode cX12_worked 76 = .ok (.ifCond .ne 7, 3) := by decide +kernel
theorem dX12_worked_79 : decode cX12_worked 79 = .ok (.iconst 0, 1) := by decide +kernel
theorem dX12_worked_80 : decode cX12_worked 80 = .ok (.goto 9, 3) := by decide +kernel
theorem dX12_worked_83 : decode cX12_worked 83 = .ok (.lload_n 1, 1) := by decide +kernel
theorem dX12_worked_84 : decode cX12_worked 84 = .ok (.lload_n 3, 1) := by decide +kernel
theorem dX12_worked_85 : decode cX12_worked 85 = .ok (.ldiv, 1) := by decide +kernel
theorem dX12_worked_86 : decode cX12_worked 86 = .ok (.invokestatic 211, 3) := by decide +kernel
theorem dX12_worked_89 : decode cX12_worked 89 = .ok (.ireturn, 1) := by decide +kernel
theorem dX12_worked_90 : decode cX12_worked 90 = .ok (.lload_n 1, 1) := by decide +kernel
theorem dX12_worked_91 : decode cX12_worked 91 = .ok (.lload_n 3, 1) := by decide +kernel
theorem dX12_worked_92 : decode cX12_worked 92 = .ok (.lcmp, 1) := by decide +kernel
theorem dX12_worked_93 : decode cX12_worked 93 = .ok (.ifCond .ne 7, 3) := by decide +kernel
theorem dX12_worked_96 : decode cX12_worked 96 = .ok (.iconst 1, 1) := by decide +kernel
theorem dX12_worked_97 : decode cX12_worked 97 = .ok (.goto 4, 3) := by decide +kernel
theorem dX12_worked_100 : decode cX12_worked 100 = .ok (.iconst 0, 1) := by decide +kernel
theorem dX12_worked_101 : decode cX12_worked 101 = .ok (.ireturn, 1) := by decide +kernel
theorem dX12_worked_102 : decode cX12_worked 102 = .ok (.lload_n 1, 1) := by decide +kernel
theorem dX12_worked_103 : decode cX12_worked 103 = .ok (.lload_n 3, 1) := by decide +kernel
theorem dX12_worked_104 : decode cX12_worked 104 = .ok (.lcmp, 1) := by decide +kernel
theorem dX12_worked_105 : decode cX12_worked 105 = .ok (.ifCond .ge 7, 3) := by decide +kernel
theorem dX12_worked_108 : decode cX12_worked 108 = .ok (.iconst 1, 1) := by decide +kernel
theorem dX12_worked_109 : decode cX12_worked 109 = .ok (.goto 4, 3) := by decide +kernel
theorem dX12_worked_112 : decode cX12_worked 112 = .ok (.iconst 0, 1) := by decide +kernel
theorem dX12_worked_113 : decode cX12_worked 113 = .ok (.ireturn, 1) := by decide +kernel
theorem dX12_worked_114 : decode cX12_worked 114 = .ok (.lload_n 1, 1) := by decide +kernel
theorem dX12_worked_115 : decode cX12_worked 115 = .ok (.lload_n 3, 1) := by decide +kernel
theorem dX12_worked_116 : decode cX12_worked 116 = .ok (.lcmp, 1) := by decide +kernel
theorem dX12_worked_117 : decode cX12_worked 117 = .ok (.ifCond .le 7, 3) := by decide +kernel
theorem dX12_worked_120 : decode cX12_worked 120 = .ok (.iconst 1, 1) := by decide +kernel
theorem dX12_worked_121 : decode cX12_worked 121 = .ok (.goto 4, 3) := by decide +kernel
theorem dX12_worked_124 : decode cX12_worked 124 = .ok (.iconst 0, 1) := by decide +kernel
theorem dX12_worked_125 : decode cX12_worked 125 = .ok (.ireturn, 1) := by decide +kernel
theorem dX12_worked_126 : decode cX12_worked 126 = .ok (.lload_n 1, 1) := by decide +kernel
theorem dX12_worked_127 : decode cX12_worked 127 = .ok (.lconst 0, 1) := by decide +kernel
theorem dX12_worked_128 : decode cX12_worked 128 = .ok (.lcmp, 1) := by decide +kernel
theorem dX12_worked_129 : decode cX12_worked 129 = .ok (.ifCond .eq 13, 3) := by decide +kernel
theorem dX12_worked_132 : decode cX12_worked 132 = .ok (.lload_n 3, 1) := by decide +kernel
theorem dX12_worked_133 : decode cX12_worked 133 = .ok (.lconst 0, 1) := by decide +kernel
theorem dX12_worked_134 : decode cX12_worked 134 = .ok (.lcmp, 1) := by decide +kernel
theorem dX12_worked_135 : decode cX12_worked 135 = .ok (.ifCond .eq 7, 3) := by decide +kernel
theorem dX12_worked_138 : decode cX12_worked 138 = .ok (.iconst 1, 1) := by decide +kernel
theorem dX12_worked_139 : decode cX12_worked 139 = .ok (.goto 4, 3) := by decide +kernel
theorem dX12_worked_142 : decode cX12_worked 142 = .ok (.iconst 0, 1) := by decide +kernel
theorem dX12_worked_143 : decode cX12_worked 143 = .ok (.ireturn, 1) := by decide +kernel
theorem dX12_worked_144 : decode cX12_worked 144 = .ok (.lload_n 1, 1) := by decide +kernel
theorem dX12_worked_145 : decode cX12_worked 145 = .ok (.lconst 0, 1) := by decide +kernel
theorem dX12_worked_146 : decode cX12_worked 146 = .ok (.lcmp, 1) := by decide +kernel
theorem dX12_worked_147 : decode cX12_worked 147 = .ok (.ifCond .ne 9, 3) := by decide +kernel
theorem dX12_worked_150 : decode cX12_worked 150 = .ok (.lload_n 3, 1) := by decide +kernel
theorem dX12_worked_151 : decode cX12_worked 151 = .ok (.lconst 0, 1) := by decide +kernel
theorem dX12_worked_152 : decode cX12_worked 152 = .ok (.lcmp, 1) := by decide +kernel
theorem dX12_worked_153 : decode cX12_worked 153 = .ok (.ifCond .eq 7, 3) := by decide +kernel
theorem dX12_worked_156 : decode cX12_worked 156 = .ok (.iconst 1, 1) := by decide +kernel
theorem dX12_worked_157 : decode cX12_worked 157 = .ok (.goto 4, 3) := by decide +kernel
theorem dX12_worked_160 : decode cX12_worked 160 = .ok (.iconst 0, 1) := by decide +kernel
theorem dX12_worked_161 : decode cX12_worked 161 = .ok (.ireturn, 1) := by decide +kernel
theorem dX12_workOut_0 : decode cX12_workOut 0 = .ok (.iconst 0, 1) := by decide +kernel
theorem dX12_workOut_1 : decode cX12_workOut 1 = .ok (.istore 4, 2) := by decide +kernel
theorem dX12_workOut_3 : decode cX12_workOut 3 = .ok (.sipush 520, 3) := by decide +kernel
theorem dX12_workOut_6 : decode cX12_workOut 6 = .ok (.iload_n 1, 1) := by decide +kernel
theorem dX12_workOut_7 : decode cX12_workOut 7 = .ok (.imul, 1) := by decide +kernel
theorem dX12_workOut_8 : decode cX12_workOut 8 = .ok (.iload_n 2, 1) := by decide +kernel
theorem dX12_workOut_9 : decode cX12_workOut 9 = .ok (.iadd, 1) := by decide +kernel
theorem dX12_workOut_10 : decode cX12_workOut 10 = .ok (.istore 5, 2) := by decide +kernel
theorem dX12_workOut_12 : decode cX12_workOut 12 = .ok (.iload 5, 2) := by decide +kernel
theorem dX12_workOut_14 : decode cX12_workOut 14 = .ok (.sipush 520, 3) := by decide +kernel
theorem dX12_workOut_17 : decode cX12_workOut 17 = .ok (.iload_n 1, 1) := by decide +kernel
theorem dX12_workOut_18 : decode cX12_workOut 18 = .ok (.imul, 1) := by decide +kernel
theorem dX12_workOut_19 : decode cX12_workOut 19 = .ok (.iload_n 3, 1) := by decide +kernel
theorem dX12_workOut_20 : decode cX12_workOut 20 = .ok (.iadd, 1) := by decide +kernel
theorem dX12_workOut_21 : decode cX12_workOut 21 = .ok (.if_icmp .ge 150, 3) := by decide +kernel
theorem dX12_workOut_24 : decode cX12_workOut 24 = .ok (.aload_n 0, 1) := by decide +kernel
theorem dX12_workOut_25 : decode cX12_workOut 25 = .ok (.getfield 13, 3) := by decide +kernel
theorem dX12_workOut_28 : decode cX12_workOut 28 = .ok (.iload 5, 2) := by decide +kernel
theorem dX12_workOut_30 : decode cX12_workOut 30 = .ok (.iaload, 1) := by decide +kernel
theorem dX12_workOut_31 : decode cX12_workOut 31 = .ok (.ifCond .eq 14, 3) := by decide +kernel
theorem dX12_workOut_34 : decode cX12_workOut 34 = .ok (.aload_n 0, 1) := by decide +kernel
theorem dX12_workOut_35 : decode cX12_workOut 35 = .ok (.getfield 13, 3) := by decide +kernel
theorem dX12_workOut_38 : decode cX12_workOut 38 = .ok (.iload 5, 2) := by decide +kernel
theorem dX12_workOut_40 : decode cX12_workOut 40 = .ok (.iaload, 1) := by decide +kernel
theorem dX12_workOut_41 : decode cX12_workOut 41 = .ok (.iconst 1, 1) := by decide +kernel
theorem dX12_workOut_42 : decode cX12_workOut 42 = .ok (.if_icmp .ne 48, 3) := by decide +kernel
theorem dX12_workOut_45 : decode cX12_workOut 45 = .ok (.aload_n 0, 1) := by decide +kernel
theorem dX12_workOut_46 : decode cX12_workOut 46 = .ok (.getfield 37, 3) := by decide +kernel
theorem dX12_workOut_49 : decode cX12_workOut 49 = .ok (.iload 4, 2) := by decide +kernel
theorem dX12_workOut_51 : decode cX12_workOut 51 = .ok (.aload_n 0, 1) := by decide +kernel
theorem dX12_workOut_52 : decode cX12_workOut 52 = .ok (.getfield 13, 3) := by decide +kernel
theorem dX12_workOut_55 : decode cX12_workOut 55 = .ok (.iload 5, 2) := by decide +kernel
theorem dX12_workOut_57 : decode cX12_workOut 57 = .ok (.iaload, 1) := by decide +kernel
theorem dX12_workOut_58 : decode cX12_workOut 58 = .ok (.ifCond .ne 13, 3) := by decide +kernel
theorem dX12_workOut_61 : decode cX12_workOut 61 = .ok (.aload_n 0, 1) := by decide +kernel
theorem dX12_workOut_62 : decode cX12_workOut 62 = .ok (.getfield 16, 3) := by decide +kernel
theorem dX12_workOut_65 : decode cX12_workOut 65 = .ok (.iload 5, 2) := by decide +kernel
theorem dX12_workOut_67 : decode cX12_workOut 67 = .ok (.iaload, 1) := by decide +kernel
theorem dX12_workOut_68 : decode cX12_workOut 68 = .ok (.goto 15, 3) := by decide +kernel
theorem dX12_workOut_71 : decode cX12_workOut 71 = .ok (.aload_n 0, 1) := by decide +kernel
theorem dX12_workOut_72 : decode cX12_workOut 72 = .ok (.getfield 34, 3) := by decide +kernel
theorem dX12_workOut_75 : decode cX12_workOut 75 = .ok (.aload_n 0, 1) := by decide +kernel
theorem dX12_workOut_76 : decode cX12_workOut 76 = .ok (.getfield 16, 3) := by decide +kernel
theorem dX12_workOut_79 : decode cX12_workOut 79 = .ok (.iload 5, 2) := by decide +kernel
theorem dX12_workOut_81 : decode cX12_workOut 81 = .ok (.iaload, 1) := by decide +kernel
theorem dX12_workOut_82 : decode cX12_workOut 82 = .ok (.iaload, 1) := by decide +kernel
theorem dX12_workOut_83 : decode cX12_workOut 83 = .ok (.iastore, 1) := by decide +kernel
theorem dX12_workOut_84 : decode cX12_workOut 84 = .ok (.iinc 4 1, 3) := by decide +kernel
theorem dX12_workOut_87 : decode cX12_workOut 87 = .ok (.goto 78, 3) := by decide +kernel
theorem dX12_workOut_90 : decode cX12_workOut 90 = .ok (.aload_n 0, 1) := by decide +kernel
theorem dX12_workOut_91 : decode cX12_workOut 91 = .ok (.getfield 13, 3) := by decide +kernel
theorem dX12_workOut_94 : decode cX12_workOut 94 = .ok (.iload 5, 2) := by decide +kernel
theorem dX12_workOut_96 : decode cX12_workOut 96 = .ok (.iaload, 1) := by decide +kernel
theorem dX12_workOut_97 : decode cX12_workOut 97 = .ok (.bipush 9, 2) := by decide +kernel
theorem dX12_workOut_99 : decode cX12_workOut 99 = .ok (.if_icmp .ne 26, 3) := by decide +kernel
theorem dX12_workOut_102 : decode cX12_workOut 102 = .ok (.aload_n 0, 1) := by decide +kernel
theorem dX12_workOut_103 : decode cX12_workOut 103 = .ok (.getfield 37, 3) := by decide +kernel
theorem dX12_workOut_106 : decode cX12_workOut 106 = .ok (.iload 4, 2) := by decide +kernel
theorem dX12_workOut_108 : decode cX12_workOut 108 = .ok (.iconst 1, 1) := by decide +kernel
theorem dX12_workOut_109 : decode cX12_workOut 109 = .ok (.isub, 1) := by decide +kernel
theorem dX12_workOut_110 : decode cX12_workOut 110 = .ok (.iconst 1, 1) := by decide +kernel
theorem dX12_workOut_111 : decode cX12_workOut 111 = .ok (.aload_n 0, 1) := by decide +kernel
theorem dX12_workOut_112 : decode cX12_workOut 112 = .ok (.getfield 37, 3) := by decide +kernel
theorem dX12_workOut_115 : decode cX12_workOut 115 = .ok (.iload 4, 2) := by decide +kernel
theorem dX12_workOut_117 : decode cX12_workOut 117 = .ok (.iconst 1, 1) := by decide +kernel
theorem dX12_workOut_118 : decode cX12_workOut 118 = .ok (.isub, 1) := by decide +kernel
theorem dX12_workOut_119 : decode cX12_workOut 119 = .ok (.iaload, 1) := by decide +kernel
theorem dX12_workOut_120 : decode cX12_workOut 120 = .ok (.isub, 1) := by decide +kernel
theorem dX12_workOut_121 : decode cX12_workOut 121 = .ok (.iastore, 1) := by decide +kernel
theorem dX12_workOut_122 : decode cX12_workOut 122 = .ok (.goto 43, 3) := by decide +kernel
theorem dX12_workOut_125 : decode cX12_workOut 125 = .ok (.iinc 4 (-1), 3) := by decide +kernel
theorem dX12_workOut_128 : decode cX12_workOut 128 = .ok (.aload_n 0, 1) := by decide +kernel
theorem dX12_workOut_129 : decode cX12_workOut 129 = .ok (.getfield 37, 3) := by decide +kernel
theorem dX12_workOut_132 : decode cX12_workOut 132 = .ok (.iload 4, 2) := by decide +kernel
theorem dX12_workOut_134 : decode cX12_workOut 134 = .ok (.iconst 1, 1) := by decide +kernel
theorem dX12_workOut_135 : decode cX12_workOut 135 = .ok (.isub, 1) := by decide +kernel
theorem dX12_workOut_136 : decode cX12_workOut 136 = .ok (.aload_n 0, 1) := by decide +kernel
theorem dX12_workOut_137 : decode cX12_workOut 137 = .ok (.getfield 13, 3) := by decide +kernel
theorem dX12_workOut_140 : decode cX12_workOut 140 = .ok (.iload 5, 2) := by decide +kernel
theorem dX12_workOut_142 : decode cX12_workOut 142 = .ok (.iaload, 1) := by decide +kernel
theorem dX12_workOut_143 : decode cX12_workOut 143 = .ok (.aload_n 0, 1) := by decide +kernel
theorem dX12_workOut_144 : decode cX12_workOut 144 = .ok (.getfield 37, 3) := by decide +kernel
theorem dX12_workOut_147 : decode cX12_workOut 147 = .ok (.iload 4, 2) := by decide +kernel
theorem dX12_workOut_149 : decode cX12_workOut 149 = .ok (.iconst 1, 1) := by decide +kernel
theorem dX12_workOut_150 : decode cX12_workOut 150 = .ok (.isub, 1) := by decide +kernel
theorem dX12_workOut_151 : decode cX12_workOut 151 = .ok (.iaload, 1) := by decide +kernel
theorem dX12_workOut_152 : decode cX12_workOut 152 = .ok (.i2l, 1) := by decide +kernel
theorem dX12_workOut_153 : decode cX12_workOut 153 = .ok (.aload_n 0, 1) := by decide +kernel
theorem dX12_workOut_154 : decode cX12_workOut 154 = .ok (.getfield 37, 3) := by decide +kernel
theorem dX12_workOut_157 : decode cX12_workOut 157 = .ok (.iload 4, 2) := by decide +kernel
theorem dX12_workOut_159 : decode cX12_workOut 159 = .ok (.iaload, 1) := by decide +kernel
theorem dX12_workOut_160 : decode cX12_workOut 160 = .ok (.i2l, 1) := by decide +kernel
theorem dX12_workOut_161 : decode cX12_workOut 161 = .ok (.invokestatic 215, 3) := by decide +kernel
theorem dX12_workOut_164 : decode cX12_workOut 164 = .ok (.iastore, 1) := by decide +kernel
theorem dX12_workOut_165 : decode cX12_workOut 165 = .ok (.iinc 5 1, 3) := by decide +kernel
theorem dX12_workOut_168 : decode cX12_workOut 168 = .ok (.goto (-156), 3) := by decide +kernel
theorem dX12_workOut_171 : decode cX12_workOut 171 = .ok (.aload_n 0, 1) := by decide +kernel
theorem dX12_workOut_172 : decode cX12_workOut 172 = .ok (.getfield 37, 3) := by decide +kernel
theorem dX12_workOut_175 : decode cX12_workOut 175 = .ok (.iconst 0, 1) := by decide +kernel
theorem dX12_workOut_176 : decode cX12_workOut 176 = .ok (.iaload, 1) := by decide +kernel
theorem dX12_workOut_177 : decode cX12_workOut 177 = .ok (.ireturn, 1) := by decide +kernel
theorem dX12_worthOf_0 : decode cX12_worthOf 0 = .ok (.sipush 140, 3) := by decide +kernel
theorem dX12_worthOf_3 : decode cX12_worthOf 3 = .ok (.iload_n 1, 1) := by decide +kernel
theorem dX12_worthOf_4 : decode cX12_worthOf 4 = .ok (.imul, 1) := by decide +kernel
theorem dX12_worthOf_5 : decode cX12_worthOf 5 = .ok (.istore_n 2, 1) := by decide +kernel
theorem dX12_worthOf_6 : decode cX12_worthOf 6 = .ok (.iload_n 2, 1) := by decide +kernel
theorem dX12_worthOf_7 : decode cX12_worthOf 7 = .ok (.sipush 140, 3) := by decide +kernel
theorem dX12_worthOf_10 : decode cX12_worthOf 10 = .ok (.iload_n 1, 1) := by decide +kernel
theorem dX12_worthOf_11 : decode cX12_worthOf 11 = .ok (.imul, 1) := by decide +kernel
theorem dX12_worthOf_12 : decode cX12_worthOf 12 = .ok (.aload_n 0, 1) := by decide +kernel
theorem dX12_worthOf_13 : decode cX12_worthOf 13 = .ok (.getfield 22, 3) := by decide +kernel
theorem dX12_worthOf_16 : decode cX12_worthOf 16 = .ok (.iload_n 1, 1) := by decide +kernel
theorem dX12_worthOf_17 : decode cX12_worthOf 17 = .ok (.iaload, 1) := by decide +kernel
theorem dX12_worthOf_18 : decode cX12_worthOf 18 = .ok (.iadd, 1) := by decide +kernel
theorem dX12_worthOf_19 : decode cX12_worthOf 19 = .ok (.if_icmp .ge 62, 3) := by decide +kernel
theorem dX12_worthOf_22 : decode cX12_worthOf 22 = .ok (.aload_n 0, 1) := by decide +kernel
theorem dX12_worthOf_23 : decode cX12_worthOf 23 = .ok (.getfield 25, 3) := by decide +kernel
theorem dX12_worthOf_26 : decode cX12_worthOf 26 = .ok (.iload_n 2, 1) := by decide +kernel
theorem dX12_worthOf_27 : decode cX12_worthOf 27 = .ok (.iaload, 1) := by decide +kernel
theorem dX12_worthOf_28 : decode cX12_worthOf 28 = .ok (.aload_n 0, 1) := by decide +kernel
theorem dX12_worthOf_29 : decode cX12_worthOf 29 = .ok (.getfield 28, 3) := by decide +kernel
theorem dX12_worthOf_32 : decode cX12_worthOf 32 = .ok (.iload_n 2, 1) := by decide +kernel
theorem dX12_worthOf_33 : decode cX12_worthOf 33 = .ok (.iaload, 1) := by decide +kernel
theorem dX12_worthOf_34 : decode cX12_worthOf 34 = .ok (.if_icmp .eq 23, 3) := by decide +kernel
theorem dX12_worthOf_37 : decode cX12_worthOf 37 = .ok (.aload_n 0, 1) := by decide +kernel
theorem dX12_worthOf_38 : decode cX12_worthOf 38 = .ok (.iload_n 1, 1) := by decide +kernel
theorem dX12_worthOf_39 : decode cX12_worthOf 39 = .ok (.aload_n 0, 1) := by decide +kernel
theorem dX12_worthOf_40 : decode cX12_worthOf 40 = .ok (.getfield 25, 3) := by decide +kernel
theorem dX12_worthOf_43 : decode cX12_worthOf 43 = .ok (.iload_n 2, 1) := by decide +kernel
theorem dX12_worthOf_44 : decode cX12_worthOf 44 = .ok (.iaload, 1) := by decide +kernel
theorem dX12_worthOf_45 : decode cX12_worthOf 45 = .ok (.aload_n 0, 1) := by decide +kernel
theorem dX12_worthOf_46 : decode cX12_worthOf 46 = .ok (.getfield 28, 3) := by decide +kernel
theorem dX12_worthOf_49 : decode cX12_worthOf 49 = .ok (.iload_n 2, 1) := by decide +kernel
theorem dX12_worthOf_50 : decode cX12_worthOf 50 = .ok (.iaload, 1) := by decide +kernel
theorem dX12_worthOf_51 : decode cX12_worthOf 51 = .ok (.invokevirtual 219, 3) := by decide +kernel
theorem dX12_worthOf_54 : decode cX12_worthOf 54 = .ok (.ifCond .eq 21, 3) := by decide +kernel
theorem dX12_worthOf_57 : decode cX12_worthOf 57 = .ok (.aload_n 0, 1) := by decide +kernel
theorem dX12_worthOf_58 : decode cX12_worthOf 58 = .ok (.iload_n 1, 1) := by decide +kernel
theorem dX12_worthOf_59 : decode cX12_worthOf 59 = .ok (.aload_n 0, 1) := by decide +kernel
theorem dX12_worthOf_60 : decode cX12_worthOf 60 = .ok (.getfield 28, 3) := by decide +kernel
theorem dX12_worthOf_63 : decode cX12_worthOf 63 = .ok (.iload_n 2, 1) := by decide +kernel
theorem dX12_worthOf_64 : decode cX12_worthOf 64 = .ok (.iaload, 1) := by decide +kernel
theorem dX12_worthOf_65 : decode cX12_worthOf 65 = .ok (.aload_n 0, 1) := by decide +kernel
theorem dX12_worthOf_66 : decode cX12_worthOf 66 = .ok (.getfield 31, 3) := by decide +kernel
theorem dX12_worthOf_69 : decode cX12_worthOf 69 = .ok (.iload_n 2, 1) := by decide +kernel
theorem dX12_worthOf_70 : decode cX12_worthOf 70 = .ok (.iaload, 1) := by decide +kernel
theorem dX12_worthOf_71 : decode cX12_worthOf 71 = .ok (.invokevirtual 219, 3) := by decide +kernel
theorem dX12_worthOf_74 : decode cX12_worthOf 74 = .ok (.ireturn, 1) := by decide +kernel
theorem dX12_worthOf_75 : decode cX12_worthOf 75 = .ok (.iinc 2 1, 3) := by decide +kernel
theorem dX12_worthOf_78 : decode cX12_worthOf 78 = .ok (.goto (-72), 3) := by decide +kernel
theorem dX12_worthOf_81 : decode cX12_worthOf 81 = .ok (.iconst 0, 1) := by decide +kernel
theorem dX12_worthOf_82 : decode cX12_worthOf 82 = .ok (.ireturn, 1) := by decide +kernel
theorem dX12_number_0 : decode cX12_number 0 = .ok (.aload_n 0, 1) := by decide +kernel
theorem dX12_number_1 : decode cX12_number 1 = .ok (.invokevirtual 137, 3) := by decide +kernel
theorem dX12_number_4 : decode cX12_number 4 = .ok (.invokestatic 140, 3) := by decide +kernel
theorem dX12_number_7 : decode cX12_number 7 = .ok (.ifCond .ne 9, 3) := by decide +kernel
theorem dX12_number_10 : decode cX12_number 10 = .ok (.aload_n 0, 1) := by decide +kernel
theorem dX12_number_11 : decode cX12_number 11 = .ok (.invokevirtual 134, 3) := by decide +kernel
theorem dX12_number_14 : decode cX12_number 14 = .ok (.iload_n 1, 1) := by decide +kernel
theorem dX12_number_15 : decode cX12_number 15 = .ok (.ireturn, 1) := by decide +kernel
theorem dX12_number_16 : decode cX12_number 16 = .ok (.aload_n 0, 1) := by decide +kernel
theorem dX12_number_17 : decode cX12_number 17 = .ok (.invokevirtual 121, 3) := by decide +kernel
theorem dX12_number_20 : decode cX12_number 20 = .ok (.bipush 48, 2) := by decide +kernel
theorem dX12_number_22 : decode cX12_number 22 = .ok (.isub, 1) := by decide +kernel
theorem dX12_number_23 : decode cX12_number 23 = .ok (.istore_n 3, 1) := by decide +kernel
theorem dX12_number_24 : decode cX12_number 24 = .ok (.aload_n 0, 1) := by decide +kernel
theorem dX12_number_25 : decode cX12_number 25 = .ok (.dup, 1) := by decide +kernel
theorem dX12_number_26 : decode cX12_number 26 = .ok (.getfield 118, 3) := by decide +kernel
theorem dX12_number_29 : decode cX12_number 29 = .ok (.iconst 1, 1) := by decide +kernel
theorem dX12_number_30 : decode cX12_number 30 = .ok (.iadd, 1) := by decide +kernel
theorem dX12_number_31 : decode cX12_number 31 = .ok (.putfield 118, 3) := by decide +kernel
theorem dX12_number_34 : decode cX12_number 34 = .ok (.aload_n 0, 1) := by decide +kernel
theorem dX12_number_35 : decode cX12_number 35 = .ok (.invokevirtual 121, 3) := by decide +kernel
theorem dX12_number_38 : decode cX12_number 38 = .ok (.invokestatic 140, 3) := by decide +kernel
theorem dX12_number_41 : decode cX12_number 41 = .ok (.ifCond .eq 26, 3) := by decide +kernel
theorem dX12_number_44 : decode cX12_number 44 = .ok (.bipush 10, 2) := by decide +kernel
theorem dX12_number_46 : decode cX12_number 46 = .ok (.iload_n 3, 1) := by decide +kernel
theorem dX12_number_47 : decode cX12_number 47 = .ok (.imul, 1) := by decide +kernel
theorem dX12_number_48 : decode cX12_number 48 = .ok (.aload_n 0, 1) := by decide +kernel
theorem dX12_number_49 : decode cX12_number 49 = .ok (.invokevirtual 121, 3) := by decide +kernel
theorem dX12_number_52 : decode cX12_number 52 = .ok (.iadd, 1) := by decide +kernel
theorem dX12_number_53 : decode cX12_number 53 = .ok (.bipush 48, 2) := by decide +kernel
theorem dX12_number_55 : decode cX12_number 55 = .ok (.isub, 1) := by decide +kernel
theorem dX12_number_56 : decode cX12_number 56 = .ok (.istore_n 3, 1) := by decide +kernel
theorem dX12_number_57 : decode cX12_number 57 = .ok (.aload_n 0, 1) := by decide +kernel
theorem dX12_number_58 : decode cX12_number 58 = .ok (.dup, 1) := by decide +kernel
theorem dX12_number_59 : decode cX12_number 59 = .ok (.getfield 118, 3) := by decide +kernel
theorem dX12_number_62 : decode cX12_number 62 = .ok (.iconst 1, 1) := by decide +kernel
theorem dX12_number_63 : decode cX12_number 63 = .ok (.iadd, 1) := by decide +kernel
theorem dX12_number_64 : decode cX12_number 64 = .ok (.putfield 118, 3) := by decide +kernel
theorem dX12_number_67 : decode cX12_number 67 = .ok (.aload_n 0, 1) := by decide +kernel
theorem dX12_number_68 : decode cX12_number 68 = .ok (.invokevirtual 121, 3) := by decide +kernel
theorem dX12_number_71 : decode cX12_number 71 = .ok (.invokestatic 140, 3) := by decide +kernel
theorem dX12_number_74 : decode cX12_number 74 = .ok (.ifCond .eq 10, 3) := by decide +kernel
theorem dX12_number_77 : decode cX12_number 77 = .ok (.aload_n 0, 1) := by decide +kernel
theorem dX12_number_78 : decode cX12_number 78 = .ok (.invokevirtual 134, 3) := by decide +kernel
theorem dX12_number_81 : decode cX12_number 81 = .ok (.goto 26, 3) := by decide +kernel
theorem dX12_number_84 : decode cX12_number 84 = .ok (.iload_n 3, 1) := by decide +kernel
theorem dX12_number_85 : decode cX12_number 85 = .ok (.iload_n 1, 1) := by decide +kernel
theorem dX12_number_86 : decode cX12_number 86 = .ok (.iload_n 2, 1) := by decide +kernel
theorem dX12_number_87 : decode cX12_number 87 = .ok (.invokestatic 223, 3) := by decide +kernel
theorem dX12_number_90 : decode cX12_number 90 = .ok (.ifCond .ne 17, 3) := by decide +kernel
theorem dX12_number_93 : decode cX12_number 93 = .ok (.aload_n 0, 1) := by decide +kernel
theorem dX12_number_94 : decode cX12_number 94 = .ok (.dup, 1) := by decide +kernel
theorem dX12_number_95 : decode cX12_number 95 = .ok (.getfield 118, 3) := by decide +kernel
theorem dX12_number_98 : decode cX12_number 98 = .ok (.iconst 1, 1) := by decide +kernel
theorem dX12_number_99 : decode cX12_number 99 = .ok (.isub, 1) := by decide +kernel
theorem dX12_number_100 : decode cX12_number 100 = .ok (.putfield 118, 3) := by decide +kernel
theorem dX12_number_103 : decode cX12_number 103 = .ok (.aload_n 0, 1) := by decide +kernel
theorem dX12_number_104 : decode cX12_number 104 = .ok (.invokevirtual 134, 3) := by decide +kernel
theorem dX12_number_107 : decode cX12_number 107 = .ok (.iload_n 3, 1) := by decide +kernel
theorem dX12_number_108 : decode cX12_number 108 = .ok (.ireturn, 1) := by decide +kernel
theorem dX12_itemOf_0 : decode cX12_itemOf 0 = .ok (.iload_n 0, 1) := by decide +kernel
theorem dX12_itemOf_1 : decode cX12_itemOf 1 = .ok (.lookupswitch 91 #[(104, 49), (115, 27)], 27) := by decide +kernel
theorem dX12_itemOf_28 : decode cX12_itemOf 28 = .ok (.iload_n 1, 1) := by decide +kernel
theorem dX12_itemOf_29 : decode cX12_itemOf 29 = .ok (.bipush 99, 2) := by decide +kernel
theorem dX12_itemOf_31 : decode cX12_itemOf 31 = .ok (.if_icmp .ne 7, 3) := by decide +kernel
theorem dX12_itemOf_34 : decode cX12_itemOf 34 = .ok (.iconst 0, 1) := by decide +kernel
theorem dX12_itemOf_35 : decode cX12_itemOf 35 = .ok (.goto 14, 3) := by decide +kernel
theorem dX12_itemOf_38 : decode cX12_itemOf 38 = .ok (.iload_n 1, 1) := by decide +kernel
theorem dX12_itemOf_39 : decode cX12_itemOf 39 = .ok (.bipush 100, 2) := by decide +kernel
theorem dX12_itemOf_41 : decode cX12_itemOf 41 = .ok (.if_icmp .ne 7, 3) := by decide +kernel
theorem dX12_itemOf_44 : decode cX12_itemOf 44 = .ok (.iconst 1, 1) := by decide +kernel
theorem dX12_itemOf_45 : decode cX12_itemOf 45 = .ok (.goto 4, 3) := by decide +kernel
theorem dX12_itemOf_48 : decode cX12_itemOf 48 = .ok (.iconst (-1), 1) := by decide +kernel
theorem dX12_itemOf_49 : decode cX12_itemOf 49 = .ok (.ireturn, 1) := by decide +kernel
theorem dX12_itemOf_50 : decode cX12_itemOf 50 = .ok (.iload_n 1, 1) := by decide +kernel
theorem dX12_itemOf_51 : decode cX12_itemOf 51 = .ok (.bipush 120, 2) := by decide +kernel
theorem dX12_itemOf_53 : decode cX12_itemOf 53 = .ok (.if_icmp .ne 7, 3) := by decide +kernel
theorem dX12_itemOf_56 : decode cX12_itemOf 56 = .ok (.iconst 0, 1) := by decide +kernel
theorem dX12_itemOf_57 : decode cX12_itemOf 57 = .ok (.goto 34, 3) := by decide +kernel
theorem dX12_itemOf_60 : decode cX12_itemOf 60 = .ok (.iload_n 1, 1) := by decide +kernel
theorem dX12_itemOf_61 : decode cX12_itemOf 61 = .ok (.bipush 116, 2) := by decide +kernel
theorem dX12_itemOf_63 : decode cX12_itemOf 63 = .ok (.if_icmp .ne 7, 3) := by decide +kernel
theorem dX12_itemOf_66 : decode cX12_itemOf 66 = .ok (.iconst 1, 1) := by decide +kernel
theorem dX12_itemOf_67 : decode cX12_itemOf 67 = .ok (.goto 24, 3) := by decide +kernel
theorem dX12_itemOf_70 : decode cX12_itemOf 70 = .ok (.iload_n 1, 1) := by decide +kernel
theorem dX12_itemOf_71 : decode cX12_itemOf 71 = .ok (.bipush 108, 2) := by decide +kernel
theorem dX12_itemOf_73 : decode cX12_itemOf 73 = .ok (.if_icmp .ne 7, 3) := by decide +kernel
theorem dX12_itemOf_76 : decode cX12_itemOf 76 = .ok (.iconst 2, 1) := by decide +kernel
theorem dX12_itemOf_77 : decode cX12_itemOf 77 = .ok (.goto 14, 3) := by decide +kernel
theorem dX12_itemOf_80 : decode cX12_itemOf 80 = .ok (.iload_n 1, 1) := by decide +kernel
theorem dX12_itemOf_81 : decode cX12_itemOf 81 = .ok (.bipush 107, 2) := by decide +kernel
theorem dX12_itemOf_83 : decode cX12_itemOf 83 = .ok (.if_icmp .ne 7, 3) := by decide +kernel
theorem dX12_itemOf_86 : decode cX12_itemOf 86 = .ok (.iconst 3, 1) := by decide +kernel
theorem dX12_itemOf_87 : decode cX12_itemOf 87 = .ok (.goto 4, 3) := by decide +kernel
theorem dX12_itemOf_90 : decode cX12_itemOf 90 = .ok (.iconst (-1), 1) := by decide +kernel
theorem dX12_itemOf_91 : decode cX12_itemOf 91 = .ok (.ireturn, 1) := by decide +kernel
theorem dX12_itemOf_92 : decode cX12_itemOf 92 = .ok (.iload_n 1, 1) := by decide +kernel
theorem dX12_itemOf_93 : decode cX12_itemOf 93 = .ok (.bipush 97, 2) := by decide +kernel
theorem dX12_itemOf_95 : decode cX12_itemOf 95 = .ok (.if_icmp .ne 7, 3) := by decide +kernel
theorem dX12_itemOf_98 : decode cX12_itemOf 98 = .ok (.iconst 0, 1) := by decide +kernel
theorem dX12_itemOf_99 : decode cX12_itemOf 99 = .ok (.goto 24, 3) := by decide +kernel
theorem dX12_itemOf_102 : decode cX12_itemOf 102 = .ok (.iload_n 1, 1) := by decide +kernel
theorem dX12_itemOf_103 : decode cX12_itemOf 103 = .ok (.bipush 98, 2) := by decide +kernel
theorem dX12_itemOf_105 : decode cX12_itemOf 105 = .ok (.if_icmp .ne 7, 3) := by decide +kernel
theorem dX12_itemOf_108 : decode cX12_itemOf 108 = .ok (.iconst 1, 1) := by decide +kernel
theorem dX12_itemOf_109 : decode cX12_itemOf 109 = .ok (.goto 14, 3) := by decide +kernel
theorem dX12_itemOf_112 : decode cX12_itemOf 112 = .ok (.iload_n 1, 1) := by decide +kernel
theorem dX12_itemOf_113 : decode cX12_itemOf 113 = .ok (.bipush 115, 2) := by decide +kernel
theorem dX12_itemOf_115 : decode cX12_itemOf 115 = .ok (.if_icmp .ne 7, 3) := by decide +kernel
theorem dX12_itemOf_118 : decode cX12_itemOf 118 = .ok (.iconst 2, 1) := by decide +kernel
theorem dX12_itemOf_119 : decode cX12_itemOf 119 = .ok (.goto 4, 3) := by decide +kernel
theorem dX12_itemOf_122 : decode cX12_itemOf 122 = .ok (.iconst (-1), 1) := by decide +kernel
theorem dX12_itemOf_123 : decode cX12_itemOf 123 = .ok (.ireturn, 1) := by decide +kernel
theorem dX12_lowest_0 : decode cX12_lowest 0 = .ok (.iload_n 0, 1) := by decide +kernel
theorem dX12_lowest_1 : decode cX12_lowest 1 = .ok (.bipush 104, 2) := by decide +kernel
theorem dX12_lowest_3 : decode cX12_lowest 3 = .ok (.if_icmp .ne 17, 3) := by decide +kernel
theorem dX12_lowest_6 : decode cX12_lowest 6 = .ok (.iload_n 1, 1) := by decide +kernel
theorem dX12_lowest_7 : decode cX12_lowest 7 = .ok (.iconst 1, 1) := by decide +kernel
theorem dX12_lowest_8 : decode cX12_lowest 8 = .ok (.if_icmp .eq 8, 3) := by decide +kernel
theorem dX12_lowest_11 : decode cX12_lowest 11 = .ok (.iload_n 1, 1) := by decide +kernel
theorem dX12_lowest_12 : decode cX12_lowest 12 = .ok (.iconst 2, 1) := by decide +kernel
theorem dX12_lowest_13 : decode cX12_lowest 13 = .ok (.if_icmp .ne 7, 3) := by decide +kernel
theorem dX12_lowest_16 : decode cX12_lowest 16 = .ok (.iconst 1, 1) := by decide +kernel
theorem dX12_lowest_17 : decode cX12_lowest 17 = .ok (.goto 4, 3) := by decide +kernel
theorem dX12_lowest_20 : decode cX12_lowest 20 = .ok (.iconst 0, 1) := by decide +kernel
theorem dX12_lowest_21 : decode cX12_lowest 21 = .ok (.ireturn, 1) := by decide +kernel
theorem dX12_highest_0 : decode cX12_highest 0 = .ok (.iload_n 0, 1) := by decide +kernel
theorem dX12_highest_1 : decode cX12_highest 1 = .ok (.lookupswitch 70 #[(104, 39), (115, 27)], 27) := by decide +kernel
theorem dX12_highest_28 : decode cX12_highest 28 = .ok (.iload_n 1, 1) := by decide +kernel
theorem dX12_highest_29 : decode cX12_highest 29 = .ok (.ifCond .ne 8, 3) := by decide +kernel
theorem dX12_highest_32 : decode cX12_highest 32 = .ok (.bipush 99, 2) := by decide +kernel
theorem dX12_highest_34 : decode cX12_highest 34 = .ok (.goto 5, 3) := by decide +kernel
theorem dX12_highest_37 : decode cX12_highest 37 = .ok (.bipush 9, 2) := by decide +kernel
theorem dX12_highest_39 : decode cX12_highest 39 = .ok (.ireturn, 1) := by decide +kernel
theorem dX12_highest_40 : decode cX12_highest 40 = .ok (.iload_n 1, 1) := by decide +kernel
theorem dX12_highest_41 : decode cX12_highest 41 = .ok (.ifCond .ne 8, 3) := by decide +kernel
theorem dX12_highest_44 : decode cX12_highest 44 = .ok (.bipush 20, 2) := by decide +kernel
theorem dX12_highest_46 : decode cX12_highest 46 = .ok (.goto 24, 3) := by decide +kernel
theorem dX12_highest_49 : decode cX12_highest 49 = .ok (.iload_n 1, 1) := by decide +kernel
theorem dX12_highest_50 : decode cX12_highest 50 = .ok (.iconst 1, 1) := by decide +kernel
theorem dX12_highest_51 : decode cX12_highest 51 = .ok (.if_icmp .ne 8, 3) := by decide +kernel
theorem dX12_highest_54 : decode cX12_highest 54 = .ok (.bipush 9, 2) := by decide +kernel
theorem dX12_highest_56 : decode cX12_highest 56 = .ok (.goto 14, 3) := by decide +kernel
theorem dX12_highest_59 : decode cX12_highest 59 = .ok (.iload_n 1, 1) := by decide +kernel
theorem dX12_highest_60 : decode cX12_highest 60 = .ok (.iconst 2, 1) := by decide +kernel
theorem dX12_highest_61 : decode cX12_highest 61 = .ok (.if_icmp .ne 8, 3) := by decide +kernel
theorem dX12_highest_64 : decode cX12_highest 64 = .ok (.bipush 99, 2) := by decide +kernel
theorem dX12_highest_66 : decode cX12_highest 66 = .ok (.goto 4, 3) := by decide +kernel
theorem dX12_highest_69 : decode cX12_highest 69 = .ok (.iconst 3, 1) := by decide +kernel
theorem dX12_highest_70 : decode cX12_highest 70 = .ok (.ireturn, 1) := by decide +kernel
theorem dX12_highest_71 : decode cX12_highest 71 = .ok (.iload_n 1, 1) := by decide +kernel
theorem dX12_highest_72 : decode cX12_highest 72 = .ok (.iconst 2, 1) := by decide +kernel
theorem dX12_highest_73 : decode cX12_highest 73 = .ok (.if_icmp .ne 8, 3) := by decide +kernel
theorem dX12_highest_76 : decode cX12_highest 76 = .ok (.bipush 9, 2) := by decide +kernel
theorem dX12_highest_78 : decode cX12_highest 78 = .ok (.goto 5, 3) := by decide +kernel
theorem dX12_highest_81 : decode cX12_highest 81 = .ok (.bipush 7, 2) := by decide +kernel
theorem dX12_highest_83 : decode cX12_highest 83 = .ok (.ireturn, 1) := by decide +kernel
theorem dX12_usual_0 : decode cX12_usual 0 = .ok (.iload_n 0, 1) := by decide +kernel
theorem dX12_usual_1 : decode cX12_usual 1 = .ok (.lookupswitch 59 #[(104, 38), (115, 27)], 27) := by decide +kernel
theorem dX12_usual_28 : decode cX12_usual 28 = .ok (.iload_n 1, 1) := by decide +kernel
theorem dX12_usual_29 : decode cX12_usual 29 = .ok (.ifCond .ne 8, 3) := by decide +kernel
theorem dX12_usual_32 : decode cX12_usual 32 = .ok (.bipush 20, 2) := by decide +kernel
theorem dX12_usual_34 : decode cX12_usual 34 = .ok (.goto 4, 3) := by decide +kernel
theorem dX12_usual_37 : decode cX12_usual 37 = .ok (.iconst 0, 1) := by decide +kernel
theorem dX12_usual_38 : decode cX12_usual 38 = .ok (.ireturn, 1) := by decide +kernel
theorem dX12_usual_39 : decode cX12_usual 39 = .ok (.iload_n 1, 1) := by decide +kernel
theorem dX12_usual_40 : decode cX12_usual 40 = .ok (.iconst 1, 1) := by decide +kernel
theorem dX12_usual_41 : decode cX12_usual 41 = .ok (.if_icmp .ne 7, 3) := by decide +kernel
theorem dX12_usual_44 : decode cX12_usual 44 = .ok (.iconst 3, 1) := by decide +kernel
theorem dX12_usual_45 : decode cX12_usual 45 = .ok (.goto 14, 3) := by decide +kernel
theorem dX12_usual_48 : decode cX12_usual 48 = .ok (.iload_n 1, 1) := by decide +kernel
theorem dX12_usual_49 : decode cX12_usual 49 = .ok (.iconst 2, 1) := by decide +kernel
theorem dX12_usual_50 : decode cX12_usual 50 = .ok (.if_icmp .ne 8, 3) := by decide +kernel
theorem dX12_usual_53 : decode cX12_usual 53 = .ok (.bipush 20, 2) := by decide +kernel
theorem dX12_usual_55 : decode cX12_usual 55 = .ok (.goto 4, 3) := by decide +kernel
theorem dX12_usual_58 : decode cX12_usual 58 = .ok (.iconst 0, 1) := by decide +kernel
theorem dX12_usual_59 : decode cX12_usual 59 = .ok (.ireturn, 1) := by decide +kernel
theorem dX12_usual_60 : decode cX12_usual 60 = .ok (.iload_n 1, 1) := by decide +kernel
theorem dX12_usual_61 : decode cX12_usual 61 = .ok (.iconst 1, 1) := by decide +kernel
theorem dX12_usual_62 : decode cX12_usual 62 = .ok (.if_icmp .ne 7, 3) := by decide +kernel
theorem dX12_usual_65 : decode cX12_usual 65 = .ok (.iconst 1, 1) := by decide +kernel
theorem dX12_usual_66 : decode cX12_usual 66 = .ok (.goto 4, 3) := by decide +kernel
theorem dX12_usual_69 : decode cX12_usual 69 = .ok (.iconst 0, 1) := by decide +kernel
theorem dX12_usual_70 : decode cX12_usual 70 = .ok (.ireturn, 1) := by decide +kernel
theorem dX12_items_0 : decode cX12_items 0 = .ok (.iconst 0, 1) := by decide +kernel
theorem dX12_items_1 : decode cX12_items 1 = .ok (.istore 5, 2) := by decide +kernel
theorem dX12_items_3 : decode cX12_items 3 = .ok (.iload 5, 2) := by decide +kernel
theorem dX12_items_5 : decode cX12_items 5 = .ok (.iload 4, 2) := by decide +kernel
theorem dX12_items_7 : decode cX12_items 7 = .ok (.if_icmp .ge 21, 3) := by decide +kernel
theorem dX12_items_10 : decode cX12_items 10 = .ok (.aload_n 2, 1) := by decide +kernel
theorem dX12_items_11 : decode cX12_items 11 = .ok (.iload_n 3, 1) := by decide +kernel
theorem dX12_items_12 : decode cX12_items 12 = .ok (.iload 5, 2) := by decide +kernel
theorem dX12_items_14 : decode cX12_items 14 = .ok (.iadd, 1) := by decide +kernel
theorem dX12_items_15 : decode cX12_items 15 = .ok (.iload_n 1, 1) := by decide +kernel
theorem dX12_items_16 : decode cX12_items 16 = .ok (.iload 5, 2) := by decide +kernel
theorem dX12_items_18 : decode cX12_items 18 = .ok (.invokestatic 227, 3) := by decide +kernel
theorem dX12_items_21 : decode cX12_items 21 = .ok (.iastore, 1) := by decide +kernel
theorem dX12_items_22 : decode cX12_items 22 = .ok (.iinc 5 1, 3) := by decide +kernel
theorem dX12_items_25 : decode cX12_items 25 = .ok (.goto (-22), 3) := by decide +kernel
theorem dX12_items_28 : decode cX12_items 28 = .ok (.iconst 0, 1) := by decide +kernel
theorem dX12_items_29 : decode cX12_items 29 = .ok (.istore 5, 2) := by decide +kernel
theorem dX12_items_31 : decode cX12_items 31 = .ok (.iload_n 1, 1) := by decide +kernel
theorem dX12_items_32 : decode cX12_items 32 = .ok (.aload_n 0, 1) := by decide +kernel
theorem dX12_items_33 : decode cX12_items 33 = .ok (.invokevirtual 137, 3) := by decide +kernel
theorem dX12_items_36 : decode cX12_items 36 = .ok (.invokestatic 231, 3) := by decide +kernel
theorem dX12_items_39 : decode cX12_items 39 = .ok (.istore 6, 2) := by decide +kernel
theorem dX12_items_41 : decode cX12_items 41 = .ok (.aload_n 0, 1) := by decide +kernel
theorem dX12_items_42 : decode cX12_items 42 = .ok (.getfield 125, 3) := by decide +kernel
theorem dX12_items_45 : decode cX12_items 45 = .ok (.iconst (-1), 1) := by decide +kernel
theorem dX12_items_46 : decode cX12_items 46 = .ok (.if_icmp .ne 85, 3) := by decide +kernel
theorem dX12_items_49 : decode cX12_items 49 = .ok (.iload 6, 2) := by decide +kernel
theorem dX12_items_51 : decode cX12_items 51 = .ok (.iconst (-1), 1) := by decide +kernel
theorem dX12_items_52 : decode cX12_items 52 = .ok (.if_icmp .eq 79, 3) := by decide +kernel
theorem dX12_items_55 : decode cX12_items 55 = .ok (.iload 5, 2) := by decide +kernel
theorem dX12_items_57 : decode cX12_items 57 = .ok (.iload 6, 2) := by decide +kernel
theorem dX12_items_59 : decode cX12_items 59 = .ok (.invokestatic 234, 3) := by decide +kernel
theorem dX12_items_62 : decode cX12_items 62 = .ok (.ifCond .ne 69, 3) := by decide +kernel
theorem dX12_items_65 : decode cX12_items 65 = .ok (.iload 5, 2) := by decide +kernel
theorem dX12_items_67 : decode cX12_items 67 = .ok (.iconst 1, 1) := by decide +kernel
theorem dX12_items_68 : decode cX12_items 68 = .ok (.iload 6, 2) := by decide +kernel
theorem dX12_items_70 : decode cX12_items 70 = .ok (.ishl, 1) := by decide +kernel
theorem dX12_items_71 : decode cX12_items 71 = .ok (.ior, 1) := by decide +kernel
theorem dX12_items_72 : decode cX12_items 72 = .ok (.istore 5, 2) := by decide +kernel
theorem dX12_items_74 : decode cX12_items 74 = .ok (.aload_n 0, 1) := by decide +kernel
theorem dX12_items_75 : decode cX12_items 75 = .ok (.dup, 1) := by decide +kernel
theorem dX12_items_76 : decode cX12_items 76 = .ok (.getfield 118, 3) := by decide +kernel
theorem dX12_items_79 : decode cX12_items 79 = .ok (.iconst 1, 1) := by decide +kernel
theorem dX12_items_80 : decode cX12_items 80 = .ok (.iadd, 1) := by decide +kernel
theorem dX12_items_81 : decode cX12_items 81 = .ok (.putfield 118, 3) := by decide +kernel
theorem dX12_items_84 : decode cX12_items 84 = .ok (.aload_n 2, 1) := by decide +kernel
theorem dX12_items_85 : decode cX12_items 85 = .ok (.iload_n 3, 1) := by decide +kernel
theorem dX12_items_86 : decode cX12_items 86 = .ok (.iload 6, 2) := by decide +kernel
theorem dX12_items_88 : decode cX12_items 88 = .ok (.iadd, 1) := by decide +kernel
theorem dX12_items_89 : decode cX12_items 89 = .ok (.aload_n 0, 1) := by decide +kernel
theorem dX12_items_90 : decode cX12_items 90 = .ok (.iload_n 1, 1) := by decide +kernel
theorem dX12_items_91 : decode cX12_items 91 = .ok (.iload 6, 2) := by decide +kernel
theorem dX12_items_93 : decode cX12_items 93 = .ok (.invokestatic 238, 3) := by decide +kernel
theorem dX12_items_96 : decode cX12_items 96 = .ok (.iload_n 1, 1) := by decide +kernel
theorem dX12_items_97 : decode cX12_items 97 = .ok (.iload 6, 2) := by decide +kernel
theorem dX12_items_99 : decode cX12_items 99 = .ok (.invokestatic 241, 3) := by decide +kernel
theorem dX12_items_102 : decode cX12_items 102 = .ok (.invokevirtual 244, 3) := by decide +kernel
theorem dX12_items_105 : decode cX12_items 105 = .ok (.iastore, 1) := by decide +kernel
theorem dX12_items_106 : decode cX12_items 106 = .ok (.aload_n 0, 1) := by decide +kernel
theorem dX12_items_107 : decode cX12_items 107 = .ok (.getfield 125, 3) := by decide +kernel
theorem dX12_items_110 : decode cX12_items 110 = .ok (.iconst (-1), 1) := by decide +kernel
theorem dX12_items_111 : decode cX12_items 111 = .ok (.if_icmp .ne 14, 3) := by decide +kernel
theorem dX12_items_114 : decode cX12_items 114 = .ok (.iload_n 1, 1) := by decide +kernel
theorem dX12_items_115 : decode cX12_items 115 = .ok (.aload_n 0, 1) := by decide +kernel
theorem dX12_items_116 : decode cX12_items 116 = .ok (.invokevirtual 137, 3) := by decide +kernel
theorem dX12_items_119 : decode cX12_items 119 = .ok (.invokestatic 231, 3) := by decide +kernel
theorem dX12_items_122 : decode cX12_items 122 = .ok (.goto 4, 3) := by decide +kernel
theorem dX12_items_125 : decode cX12_items 125 = .ok (.iconst (-1), 1) := by decide +kernel
theorem dX12_items_126 : decode cX12_items 126 = .ok (.istore 6, 2) := by decide +kernel
theorem dX12_items_128 : decode cX12_items 128 = .ok (.goto (-87), 3) := by decide +kernel
theorem dX12_items_131 : decode cX12_items 131 = .ok (.return_, 1) := by decide +kernel
theorem dX12_isWhole_0 : decode cX12_isWhole 0 = .ok (.aload_n 0, 1) := by decide +kernel
theorem dX12_isWhole_1 : decode cX12_isWhole 1 = .ok (.getfield 247, 3) := by decide +kernel
theorem dX12_isWhole_4 : decode cX12_isWhole 4 = .ok (.iconst 1, 1) := by decide +kernel
theorem dX12_isWhole_5 : decode cX12_isWhole 5 = .ok (.if_icmp .le 7, 3) := by decide +kernel
theorem dX12_isWhole_8 : decode cX12_isWhole 8 = .ok (.iconst 1, 1) := by decide +kernel
theorem dX12_isWhole_9 : decode cX12_isWhole 9 = .ok (.goto 4, 3) := by decide +kernel
theorem dX12_isWhole_12 : decode cX12_isWhole 12 = .ok (.iconst 0, 1) := by decide +kernel
theorem dX12_isWhole_13 : decode cX12_isWhole 13 = .ok (.istore_n 1, 1) := by decide +kernel
theorem dX12_isWhole_14 : decode cX12_isWhole 14 = .ok (.iconst 0, 1) := by decide +kernel
theorem dX12_isWhole_15 : decode cX12_isWhole 15 = .ok (.istore_n 2, 1) := by decide +kernel
theorem dX12_isWhole_16 : decode cX12_isWhole 16 = .ok (.iload_n 2, 1) := by decide +kernel
theorem dX12_isWhole_17 : decode cX12_isWhole 17 = .ok (.aload_n 0, 1) := by decide +kernel
theorem dX12_isWhole_18 : decode cX12_isWhole 18 = .ok (.getfield 250, 3) := by decide +kernel
theorem dX12_isWhole_21 : decode cX12_isWhole 21 = .ok (.if_icmp .ge 196, 3) := by decide +kernel
theorem dX12_isWhole_24 : decode cX12_isWhole 24 = .ok (.aload_n 0, 1) := by decide +kernel
theorem dX12_isWhole_25 : decode cX12_isWhole 25 = .ok (.getfield 46, 3) := by decide +kernel
theorem dX12_isWhole_28 : decode cX12_isWhole 28 = .ok (.iconst 3, 1) := by decide +kernel
theorem dX12_isWhole_29 : decode cX12_isWhole 29 = .ok (.iload_n 2, 1) := by decide +kernel
theorem dX12_isWhole_30 : decode cX12_isWhole 30 = .ok (.imul, 1) := by decide +kernel
theorem dX12_isWhole_31 : decode cX12_isWhole 31 = .ok (.iaload, 1) := by decide +kernel
theorem dX12_isWhole_32 : decode cX12_isWhole 32 = .ok (.istore_n 3, 1) := by decide +kernel
theorem dX12_isWhole_33 : decode cX12_isWhole 33 = .ok (.aload_n 0, 1) := by decide +kernel
theorem dX12_isWhole_34 : decode cX12_isWhole 34 = .ok (.getfield 46, 3) := by decide +kernel
theorem dX12_isWhole_37 : decode cX12_isWhole 37 = .ok (.iconst 3, 1) := by decide +kernel
theorem dX12_isWhole_38 : decode cX12_isWhole 38 = .ok (.iload_n 2, 1) := by decide +kernel
theorem dX12_isWhole_39 : decode cX12_isWhole 39 = .ok (.imul, 1) := by decide +kernel
theorem dX12_isWhole_40 : decode cX12_isWhole 40 = .ok (.iconst 1, 1) := by decide +kernel
theorem dX12_isWhole_41 : decode cX12_isWhole 41 = .ok (.iadd, 1) := by decide +kernel
theorem dX12_isWhole_42 : decode cX12_isWhole 42 = .ok (.iaload, 1) := by decide +kernel
theorem dX12_isWhole_43 : decode cX12_isWhole 43 = .ok (.istore 4, 2) := by decide +kernel
theorem dX12_isWhole_45 : decode cX12_isWhole 45 = .ok (.iload_n 1, 1) := by decide +kernel
theorem dX12_isWhole_46 : decode cX12_isWhole 46 = .ok (.ifCond .eq 30, 3) := by decide +kernel
theorem dX12_isWhole_49 : decode cX12_isWhole 49 = .ok (.iload_n 3, 1) := by decide +kernel
theorem dX12_isWhole_50 : decode cX12_isWhole 50 = .ok (.aload_n 0, 1) := by decide +kernel
theorem dX12_isWhole_51 : decode cX12_isWhole 51 = .ok (.getfield 247, 3) := by decide +kernel
theorem dX12_isWhole_54 : decode cX12_isWhole 54 = .ok (.if_icmp .ge 22, 3) := by decide +kernel
theorem dX12_isWhole_57 : decode cX12_isWhole 57 = .ok (.iload 4, 2) := by decide +kernel
theorem dX12_isWhole_59 : decode cX12_isWhole 59 = .ok (.aload_n 0, 1) := by decide +kernel
theorem dX12_isWhole_60 : decode cX12_isWhole 60 = .ok (.getfield 247, 3) := by decide +kernel
theorem dX12_isWhole_63 : decode cX12_isWhole 63 = .ok (.if_icmp .ge 13, 3) := by decide +kernel
theorem dX12_isWhole_66 : decode cX12_isWhole 66 = .ok (.iload_n 3, 1) := by decide +kernel
theorem dX12_isWhole_67 : decode cX12_isWhole 67 = .ok (.iload 4, 2) := by decide +kernel
theorem dX12_isWhole_69 : decode cX12_isWhole 69 = .ok (.if_icmp .eq 7, 3) := by decide +kernel
theorem dX12_isWhole_72 : decode cX12_isWhole 72 = .ok (.iconst 1, 1) := by decide +kernel
theorem dX12_isWhole_73 : decode cX12_isWhole 73 = .ok (.goto 4, 3) := by decide +kernel
theorem dX12_isWhole_76 : decode cX12_isWhole 76 = .ok (.iconst 0, 1) := by decide +kernel
theorem dX12_isWhole_77 : decode cX12_isWhole 77 = .ok (.istore_n 1, 1) := by decide +kernel
theorem dX12_isWhole_78 : decode cX12_isWhole 78 = .ok (.iload_n 1, 1) := by decide +kernel
theorem dX12_isWhole_79 : decode cX12_isWhole 79 = .ok (.ifCond .eq 36, 3) := by decide +kernel
theorem dX12_isWhole_82 : decode cX12_isWhole 82 = .ok (.aload_n 0, 1) := by decide +kernel
theorem dX12_isWhole_83 : decode cX12_isWhole 83 = .ok (.getfield 43, 3) := by decide +kernel
theorem dX12_isWhole_86 : decode cX12_isWhole 86 = .ok (.iconst 4, 1) := by decide +kernel
theorem dX12_isWhole_87 : decode cX12_isWhole 87 = .ok (.iload_n 3, 1) := by decide +kernel
theorem dX12_isWhole_88 : decode cX12_isWhole 88 = .ok (.imul, 1) := by decide +kernel
theorem dX12_isWhole_89 : decode cX12_isWhole 89 = .ok (.iconst 3, 1) := by decide +kernel
theorem dX12_isWhole_90 : decode cX12_isWhole 90 = .ok (.iadd, 1) := by decide +kernel
theorem dX12_isWhole_91 : decode cX12_isWhole 91 = .ok (.iaload, 1) := by decide +kernel
theorem dX12_isWhole_92 : decode cX12_isWhole 92 = .ok (.iconst 2, 1) := by decide +kernel
theorem dX12_isWhole_93 : decode cX12_isWhole 93 = .ok (.if_icmp .ne 18, 3) := by decide +kernel
theorem dX12_isWhole_96 : decode cX12_isWhole 96 = .ok (.aload_n 0, 1) := by decide +kernel
theorem dX12_isWhole_97 : decode cX12_isWhole 97 = .ok (.getfield 43, 3) := by decide +kernel
theorem dX12_isWhole_100 : decode cX12_isWhole 100 = .ok (.iconst 4, 1) := by decide +kernel
theorem dX12_isWhole_101 : decode cX12_isWhole 101 = .ok (.iload 4, 2) := by decide +kernel
theorem dX12_isWhole_103 : decode cX12_isWhole 103 = .ok (.imul, 1) := by decide +kernel
theorem dX12_isWhole_104 : decode cX12_isWhole 104 = .ok (.iconst 3, 1) := by decide +kernel
theorem dX12_isWhole_105 : decode cX12_isWhole 105 = .ok (.iadd, 1) := by decide +kernel
theorem dX12_isWhole_106 : decode cX12_isWhole 106 = .ok (.iaload, 1) := by decide +kernel
theorem dX12_isWhole_107 : decode cX12_isWhole 107 = .ok (.iconst 2, 1) := by decide +kernel
theorem dX12_isWhole_108 : decode cX12_isWhole 108 = .ok (.if_icmp .eq 7, 3) := by decide +kernel
theorem dX12_isWhole_111 : decode cX12_isWhole 111 = .ok (.iconst 1, 1) := by decide +kernel
theorem dX12_isWhole_112 : decode cX12_isWhole 112 = .ok (.goto 4, 3) := by decide +kernel
theorem dX12_isWhole_115 : decode cX12_isWhole 115 = .ok (.iconst 0, 1) := by decide +kernel
theorem dX12_isWhole_116 : decode cX12_isWhole 116 = .ok (.istore_n 1, 1) := by decide +kernel
theorem dX12_isWhole_117 : decode cX12_isWhole 117 = .ok (.iconst 0, 1) := by decide +kernel
theorem dX12_isWhole_118 : decode cX12_isWhole 118 = .ok (.istore 5, 2) := by decide +kernel
theorem dX12_isWhole_120 : decode cX12_isWhole 120 = .ok (.iload 5, 2) := by decide +kernel
theorem dX12_isWhole_122 : decode cX12_isWhole 122 = .ok (.iload_n 2, 1) := by decide +kernel
theorem dX12_isWhole_123 : decode cX12_isWhole 123 = .ok (.if_icmp .ge 88, 3) := by decide +kernel
theorem dX12_isWhole_126 : decode cX12_isWhole 126 = .ok (.iload_n 1, 1) := by decide +kernel
theorem dX12_isWhole_127 : decode cX12_isWhole 127 = .ok (.ifCond .eq 76, 3) := by decide +kernel
theorem dX12_isWhole_130 : decode cX12_isWhole 130 = .ok (.iload_n 3, 1) := by decide +kernel
theorem dX12_isWhole_131 : decode cX12_isWhole 131 = .ok (.iload 4, 2) := by decide +kernel
theorem dX12_isWhole_133 : decode cX12_isWhole 133 = .ok (.invokestatic 253, 3) := by decide +kernel
theorem dX12_isWhole_136 : decode cX12_isWhole 136 = .ok (.bipush 8, 2) := by decide +kernel
theorem dX12_isWhole_138 : decode cX12_isWhole 138 = .ok (.imul, 1) := by decide +kernel
theorem dX12_isWhole_139 : decode cX12_isWhole 139 = .ok (.iload_n 3, 1) := by decide +kernel
theorem dX12_isWhole_140 : decode cX12_isWhole 140 = .ok (.iload 4, 2) := by decide +kernel
theorem dX12_isWhole_142 : decode cX12_isWhole 142 = .ok (.invokestatic 255, 3) := by decide +kernel
theorem dX12_isWhole_145 : decode cX12_isWhole 145 = .ok (.iadd, 1) := by decide +kernel
theorem dX12_isWhole_146 : decode cX12_isWhole 146 = .ok (.aload_n 0, 1) := by decide +kernel
theorem dX12_isWhole_147 : decode cX12_isWhole 147 = .ok (.getfield 46, 3) := by decide +kernel
theorem dX12_isWhole_150 : decode cX12_isWhole 150 = .ok (.iconst 3, 1) := by decide +kernel
theorem dX12_isWhole_151 : decode cX12_isWhole 151 = .ok (.iload 5, 2) := by decide +kernel
theorem dX12_isWhole_153 : decode cX12_isWhole 153 = .ok (.imul, 1) := by decide +kernel
theorem dX12_isWhole_154 : decode cX12_isWhole 154 = .ok (.iaload, 1) := by decide +kernel
theorem dX12_isWhole_155 : decode cX12_isWhole 155 = .ok (.aload_n 0, 1) := by decide +kernel
theorem dX12_isWhole_156 : decode cX12_isWhole 156 = .ok (.getfield 46, 3) := by decide +kernel
theorem dX12_isWhole_159 : decode cX12_isWhole 159 = .ok (.iconst 3, 1) := by decide +kernel
theorem dX12_isWhole_160 : decode cX12_isWhole 160 = .ok (.iload 5, 2) := by decide +kernel
theorem dX12_isWhole_162 : decode cX12_isWhole 162 = .ok (.imul, 1) := by decide +kernel
theorem dX12_isWhole_163 : decode cX12_isWhole 163 = .ok (.iconst 1, 1) := by decide +kernel
theorem dX12_isWhole_164 : decode cX12_isWhole 164 = .ok (.iadd, 1) := by decide +kernel
theorem dX12_isWhole_165 : decode cX12_isWhole 165 = .ok (.iaload, 1) := by decide +kernel
theorem dX12_isWhole_166 : decode cX12_isWhole 166 = .ok (.invokestatic 253, 3) := by decide +kernel
theorem dX12_isWhole_169 : decode cX12_isWhole 169 = .ok (.bipush 8, 2) := by decide +kernel
theorem dX12_isWhole_171 : decode cX12_isWhole 171 = .ok (.imul, 1) := by decide +kernel
theorem dX12_isWhole_172 : decode cX12_isWhole 172 = .ok (.aload_n 0, 1) := by decide +kernel
theorem dX12_isWhole_173 : decode cX12_isWhole 173 = .ok (.getfield 46, 3) := by decide +kernel
theorem dX12_isWhole_176 : decode cX12_isWhole 176 = .ok (.iconst 3, 1) := by decide +kernel
theorem dX12_isWhole_177 : decode cX12_isWhole 177 = .ok (.iload 5, 2) := by decide +kernel
theorem dX12_isWhole_179 : decode cX12_isWhole 179 = .ok (.imul, 1) := by decide +kernel
theorem dX12_isWhole_180 : decode cX12_isWhole 180 = .ok (.iaload, 1) := by decide +kernel
theorem dX12_isWhole_181 : decode cX12_isWhole 181 = .ok (.aload_n 0, 1) := by decide +kernel
theorem dX12_isWhole_182 : decode cX12_isWhole 182 = .ok (.getfield 46, 3) := by decide +kernel
theorem dX12_isWhole_185 : decode cX12_isWhole 185 = .ok (.iconst 3, 1) := by decide +kernel
theorem dX12_isWhole_186 : decode cX12_isWhole 186 = .ok (.iload 5, 2) := by decide +kernel
theorem dX12_isWhole_188 : decode cX12_isWhole 188 = .ok (.imul, 1) := by decide +kernel
theorem dX12_isWhole_189 : decode cX12_isWhole 189 = .ok (.iconst 1, 1) := by decide +kernel
theorem dX12_isWhole_190 : decode cX12_isWhole 190 = .ok (.iadd, 1) := by decide +kernel
theorem dX12_isWhole_191 : decode cX12_isWhole 191 = .ok (.iaload, 1) := by decide +kernel
theorem dX12_isWhole_192 : decode cX12_isWhole 192 = .ok (.invokestatic 255, 3) := by decide +kernel
theorem dX12_isWhole_195 : decode cX12_isWhole 195 = .ok (.iadd, 1) := by decide +kernel
theorem dX12_isWhole_196 : decode cX12_isWhole 196 = .ok (.if_icmp .eq 7, 3) := by decide +kernel
theorem dX12_isWhole_199 : decode cX12_isWhole 199 = .ok (.iconst 1, 1) := by decide +kernel
theorem dX12_isWhole_200 : decode cX12_isWhole 200 = .ok (.goto 4, 3) := by decide +kernel
theorem dX12_isWhole_203 : decode cX12_isWhole 203 = .ok (.iconst 0, 1) := by decide +kernel
theorem dX12_isWhole_204 : decode cX12_isWhole 204 = .ok (.istore_n 1, 1) := by decide +kernel
theorem dX12_isWhole_205 : decode cX12_isWhole 205 = .ok (.iinc 5 1, 3) := by decide +kernel
theorem dX12_isWhole_208 : decode cX12_isWhole 208 = .ok (.goto (-88), 3) := by decide +kernel
theorem dX12_isWhole_211 : decode cX12_isWhole 211 = .ok (.iinc 2 1, 3) := by decide +kernel
theorem dX12_isWhole_214 : decode cX12_isWhole 214 = .ok (.goto (-198), 3) := by decide +kernel
theorem dX12_isWhole_217 : decode cX12_isWhole 217 = .ok (.iload_n 1, 1) := by decide +kernel
theorem dX12_isWhole_218 : decode cX12_isWhole 218 = .ok (.ireturn, 1) := by decide +kernel
theorem dX12_readBelt_0 : decode cX12_readBelt 0 = .ok (.aload_n 0, 1) := by decide +kernel
theorem dX12_readBelt_1 : decode cX12_readBelt 1 = .ok (.iconst 0, 1) := by decide +kernel
theorem dX12_readBelt_2 : decode cX12_readBelt 2 = .ok (.putfield 118, 3) := by decide +kernel
theorem dX12_readBelt_5 : decode cX12_readBelt 5 = .ok (.aload_n 0, 1) := by decide +kernel
theorem dX12_readBelt_6 : decode cX12_readBelt 6 = .ok (.iconst (-1), 1) := by decide +kernel
theorem dX12_readBelt_7 : decode cX12_readBelt 7 = .ok (.putfield 125, 3) := by decide +kernel
theorem dX12_readBelt_10 : decode cX12_readBelt 10 = .ok (.aload_n 0, 1) := by decide +kernel
theorem dX12_readBelt_11 : decode cX12_readBelt 11 = .ok (.iconst 0, 1) := by decide +kernel
theorem dX12_readBelt_12 : decode cX12_readBelt 12 = .ok (.putfield 247, 3) := by decide +kernel
theorem dX12_readBelt_15 : decode cX12_readBelt 15 = .ok (.aload_n 0, 1) := by decide +kernel
theorem dX12_readBelt_16 : decode cX12_readBelt 16 = .ok (.iconst 0, 1) := by decide +kernel
theorem dX12_readBelt_17 : decode cX12_readBelt 17 = .ok (.putfield 250, 3) := by decide +kernel
theorem dX12_readBelt_20 : decode cX12_readBelt 20 = .ok (.iconst 0, 1) := by decide +kernel
theorem dX12_readBelt_21 : decode cX12_readBelt 21 = .ok (.istore_n 1, 1) := by decide +kernel
theorem dX12_readBelt_22 : decode cX12_readBelt 22 = .ok (.aload_n 0, 1) := by decide +kernel
theorem dX12_readBelt_23 : decode cX12_readBelt 23 = .ok (.getfield 40, 3) := by decide +kernel
theorem dX12_readBelt_26 : decode cX12_readBelt 26 = .ok (.iconst 0, 1) := by decide +kernel
theorem dX12_readBelt_27 : decode cX12_readBelt 27 = .ok (.bipush 115, 2) := by decide +kernel
theorem dX12_readBelt_29 : decode cX12_readBelt 29 = .ok (.iconst 0, 1) := by decide +kernel
theorem dX12_readBelt_30 : decode cX12_readBelt 30 = .ok (.invokestatic 227, 3) := by decide +kernel
theorem dX12_readBelt_33 : decode cX12_readBelt 33 = .ok (.iastore, 1) := by decide +kernel
theorem dX12_readBelt_34 : decode cX12_readBelt 34 = .ok (.aload_n 0, 1) := by decide +kernel
theorem dX12_readBelt_35 : decode cX12_readBelt 35 = .ok (.getfield 40, 3) := by decide +kernel
theorem dX12_readBelt_38 : decode cX12_readBelt 38 = .ok (.iconst 1, 1) := by decide +kernel
theorem dX12_readBelt_39 : decode cX12_readBelt 39 = .ok (.bipush 115, 2) := by decide +kernel
theorem dX12_readBelt_41 : decode cX12_readBelt 41 = .ok (.iconst 1, 1) := by decide +kernel
theorem dX12_readBelt_42 : decode cX12_readBelt 42 = .ok (.invokestatic 227, 3) := by decide +kernel
theorem dX12_readBelt_45 : decode cX12_readBelt 45 = .ok (.iastore, 1) := by decide +kernel
theorem dX12_readBelt_46 : decode cX12_readBelt 46 = .ok (.iconst 1, 1) := by decide +kernel
theorem dX12_readBelt_47 : decode cX12_readBelt 47 = .ok (.istore_n 2, 1) := by decide +kernel
theorem dX12_readBelt_48 : decode cX12_readBelt 48 = .ok (.iload_n 2, 1) := by decide +kernel
theorem dX12_readBelt_49 : decode cX12_readBelt 49 = .ok (.ifCond .eq 208, 3) := by decide +kernel
theorem dX12_readBelt_52 : decode cX12_readBelt 52 = .ok (.aload_n 0, 1) := by decide +kernel
theorem dX12_readBelt_53 : decode cX12_readBelt 53 = .ok (.getfield 125, 3) := by decide +kernel
theorem dX12_readBelt_56 : decode cX12_readBelt 56 = .ok (.iconst (-1), 1) := by decide +kernel
theorem dX12_readBelt_57 : decode cX12_readBelt 57 = .ok (.if_icmp .ne 200, 3) := by decide +kernel
theorem dX12_readBelt_60 : decode cX12_readBelt 60 = .ok (.aload_n 0, 1) := by decide +kernel
theorem dX12_readBelt_61 : decode cX12_readBelt 61 = .ok (.invokevirtual 137, 3) := by decide +kernel
theorem dX12_readBelt_64 : decode cX12_readBelt 64 = .ok (.istore_n 3, 1) := by decide +kernel
theorem dX12_readBelt_65 : decode cX12_readBelt 65 = .ok (.iload_n 3, 1) := by decide +kernel
theorem dX12_readBelt_66 : decode cX12_readBelt 66 = .ok (.bipush 115, 2) := by decide +kernel
theorem dX12_readBelt_68 : decode cX12_readBelt 68 = .ok (.if_icmp .ne 33, 3) := by decide +kernel
theorem dX12_readBelt_71 : decode cX12_readBelt 71 = .ok (.iload_n 1, 1) := by decide +kernel
theorem dX12_readBelt_72 : decode cX12_readBelt 72 = .ok (.ifCond .ne 29, 3) := by decide +kernel
theorem dX12_readBelt_75 : decode cX12_readBelt 75 = .ok (.iconst 1, 1) := by decide +kernel
theorem dX12_readBelt_76 : decode cX12_readBelt 76 = .ok (.istore_n 1, 1) := by decide +kernel
theorem dX12_readBelt_77 : decode cX12_readBelt 77 = .ok (.aload_n 0, 1) := by decide +kernel
theorem dX12_readBelt_78 : decode cX12_readBelt 78 = .ok (.dup, 1) := by decide +kernel
theorem dX12_readBelt_79 : decode cX12_readBelt 79 = .ok (.getfield 118, 3) := by decide +kernel
theorem dX12_readBelt_82 : decode cX12_readBelt 82 = .ok (.iconst 1, 1) := by decide +kernel
theorem dX12_readBelt_83 : decode cX12_readBelt 83 = .ok (.iadd, 1) := by decide +kernel
theorem dX12_readBelt_84 : decode cX12_readBelt 84 = .ok (.putfield 118, 3) := by decide +kernel
theorem dX12_readBelt_87 : decode cX12_readBelt 87 = .ok (.aload_n 0, 1) := by decide +kernel
theorem dX12_readBelt_88 : decode cX12_readBelt 88 = .ok (.iload_n 3, 1) := by decide +kernel
theorem dX12_readBelt_89 : decode cX12_readBelt 89 = .ok (.aload_n 0, 1) := by decide +kernel
theorem dX12_readBelt_90 : decode cX12_readBelt 90 = .ok (.getfield 40, 3) := by decide +kernel
theorem dX12_readBelt_93 : decode cX12_readBelt 93 = .ok (.iconst 0, 1) := by decide +kernel
theorem dX12_readBelt_94 : decode cX12_readBelt 94 = .ok (.iconst 2, 1) := by decide +kernel
theorem dX12_readBelt_95 : decode cX12_readBelt 95 = .ok (.invokevirtual 257, 3) := by decide +kernel
theorem dX12_readBelt_98 : decode cX12_readBelt 98 = .ok (.goto 115, 3) := by decide +kernel
theorem dX12_readBelt_101 : decode cX12_readBelt 101 = .ok (.iload_n 3, 1) := by decide +kernel
theorem dX12_readBelt_102 : decode cX12_readBelt 102 = .ok (.bipush 104, 2) := by decide +kernel
theorem dX12_readBelt_104 : decode cX12_readBelt 104 = .ok (.if_icmp .ne 51, 3) := by decide +kernel
theorem dX12_readBelt_107 : decode cX12_readBelt 107 = .ok (.aload_n 0, 1) := by decide +kernel
theorem dX12_readBelt_108 : decode cX12_readBelt 108 = .ok (.getfield 247, 3) := by decide +kernel
theorem dX12_readBelt_111 : decode cX12_readBelt 111 = .ok (.bipush 8, 2) := by decide +kernel
theorem dX12_readBelt_113 : decode cX12_readBelt 113 = .ok (.if_icmp .ge 42, 3) := by decide +kernel
theorem dX12_readBelt_116 : decode cX12_readBelt 116 = .ok (.aload_n 0, 1) := by decide +kernel
theorem dX12_readBelt_117 : decode cX12_readBelt 117 = .ok (.dup, 1) := by decide +kernel
theorem dX12_readBelt_118 : decode cX12_readBelt 118 = .ok (.getfield 118, 3) := by decide +kernel
theorem dX12_readBelt_121 : decode cX12_readBelt 121 = .ok (.iconst 1, 1) := by decide +kernel
theorem dX12_readBelt_122 : decode cX12_readBelt 122 = .ok (.iadd, 1) := by decide +kernel
theorem dX12_readBelt_123 : decode cX12_readBelt 123 = .ok (.putfield 118, 3) := by decide +kernel
theorem dX12_readBelt_126 : decode cX12_readBelt 126 = .ok (.aload_n 0, 1) := by decide +kernel
theorem dX12_readBelt_127 : decode cX12_readBelt 127 = .ok (.iload_n 3, 1) := by decide +kernel
theorem dX12_readBelt_128 : decode cX12_readBelt 128 = .ok (.aload_n 0, 1) := by decide +kernel
theorem dX12_readBelt_129 : decode cX12_readBelt 129 = .ok (.getfield 43, 3) := by decide +kernel
theorem dX12_readBelt_132 : decode cX12_readBelt 132 = .ok (.iconst 4, 1) := by decide +kernel
theorem dX12_readBelt_133 : decode cX12_readBelt 133 = .ok (.aload_n 0, 1) := by decide +kernel
theorem dX12_readBelt_134 : decode cX12_readBelt 134 = .ok (.getfield 247, 3) := by decide +kernel
theorem dX12_readBelt_137 : decode cX12_readBelt 137 = .ok (.imul, 1) := by decide +kernel
theorem dX12_readBelt_138 : decode cX12_readBelt 138 = .ok (.iconst 4, 1) := by decide +kernel
theorem dX12_readBelt_139 : decode cX12_readBelt 139 = .ok (.invokevirtual 257, 3) := by decide +kernel
theorem dX12_readBelt_142 : decode cX12_readBelt 142 = .ok (.aload_n 0, 1) := by decide +kernel
theorem dX12_readBelt_143 : decode cX12_readBelt 143 = .ok (.dup, 1) := by decide +kernel
theorem dX12_readBelt_144 : decode cX12_readBelt 144 = .ok (.getfield 247, 3) := by decide +kernel
theorem dX12_readBelt_147 : decode cX12_readBelt 147 = .ok (.iconst 1, 1) := by decide +kernel
theorem dX12_readBelt_148 : decode cX12_readBelt 148 = .ok (.iadd, 1) := by decide +kernel
theorem dX12_readBelt_149 : decode cX12_readBelt 149 = .ok (.putfield 247, 3) := by decide +kernel
theorem dX12_readBelt_152 : decode cX12_readBelt 152 = .ok (.goto 61, 3) := by decide +kernel
theorem dX12_readBelt_155 : decode cX12_readBelt 155 = .ok (.iload_n 3, 1) := by decide +kernel
theorem dX12_readBelt_156 : decode cX12_readBelt 156 = .ok (.bipush 119, 2) := by decide +kernel
theorem dX12_readBelt_158 : decode cX12_readBelt 158 = .ok (.if_icmp .ne 51, 3) := by decide +kernel
theorem dX12_readBelt_161 : decode cX12_readBelt 161 = .ok (.aload_n 0, 1) := by decide +kernel
theorem dX12_readBelt_162 : decode cX12_readBelt 162 = .ok (.getfield 250, 3) := by decide +kernel
theorem dX12_readBelt_165 : decode cX12_readBelt 165 = .ok (.bipush 8, 2) := by decide +kernel
theorem dX12_readBelt_167 : decode cX12_readBelt 167 = .ok (.if_icmp .ge 42, 3) := by decide +kernel
theorem dX12_readBelt_170 : decode cX12_readBelt 170 = .ok (.aload_n 0, 1) := by decide +kernel
theorem dX12_readBelt_171 : decode cX12_readBelt 171 = .ok (.dup, 1) := by decide +kernel
theorem dX12_readBelt_172 : decode cX12_readBelt 172 = .ok (.getfield 118, 3) := by decide +kernel
theorem dX12_readBelt_175 : decode cX12_readBelt 175 = .ok (.iconst 1, 1) := by decide +kernel
theorem dX12_readBelt_176 : decode cX12_readBelt 176 = .ok (.iadd, 1) := by decide +kernel
theorem dX12_readBelt_177 : decode cX12_readBelt 177 = .ok (.putfield 118, 3) := by decide +kernel
theorem dX12_readBelt_180 : decode cX12_readBelt 180 = .ok (.aload_n 0, 1) := by decide +kernel
theorem dX12_readBelt_181 : decode cX12_readBelt 181 = .ok (.iload_n 3, 1) := by decide +kernel
theorem dX12_readBelt_182 : decode cX12_readBelt 182 = .ok (.aload_n 0, 1) := by decide +kernel
theorem dX12_readBelt_183 : decode cX12_readBelt 183 = .ok (.getfield 46, 3) := by decide +kernel
theorem dX12_readBelt_186 : decode cX12_readBelt 186 = .ok (.iconst 3, 1) := by decide +kernel
theorem dX12_readBelt_187 : decode cX12_readBelt 187 = .ok (.aload_n 0, 1) := by decide +kernel
theorem dX12_readBelt_188 : decode cX12_readBelt 188 = .ok (.getfield 250, 3) := by decide +kernel
theorem dX12_readBelt_191 : decode cX12_readBelt 191 = .ok (.imul, 1) := by decide +kernel
theorem dX12_readBelt_192 : decode cX12_readBelt 192 = .ok (.iconst 3, 1) := by decide +kernel
theorem dX12_readBelt_193 : decode cX12_readBelt 193 = .ok (.invokevirtual 257, 3) := by decide +kernel
theorem dX12_readBelt_196 : decode cX12_readBelt 196 = .ok (.aload_n 0, 1) := by decide +kernel
theorem dX12_readBelt_197 : decode cX12_readBelt 197 = .ok (.dup, 1) := by decide +kernel
theorem dX12_readBelt_198 : decode cX12_readBelt 198 = .ok (.getfield 250, 3) := by decide +kernel
theorem dX12_readBelt_201 : decode cX12_readBelt 201 = .ok (.iconst 1, 1) := by decide +kernel
theorem dX12_readBelt_202 : decode cX12_readBelt 202 = .ok (.iadd, 1) := by decide +kernel
theorem dX12_readBelt_203 : decode cX12_readBelt 203 = .ok (.putfield 250, 3) := by decide +kernel
theorem dX12_readBelt_206 : decode cX12_readBelt 206 = .ok (.goto 7, 3) := by decide +kernel
theorem dX12_readBelt_209 : decode cX12_readBelt 209 = .ok (.aload_n 0, 1) := by decide +kernel
theorem dX12_readBelt_210 : decode cX12_readBelt 210 = .ok (.invokevirtual 134, 3) := by decide +kernel
theorem dX12_readBelt_213 : decode cX12_readBelt 213 = .ok (.aload_n 0, 1) := by decide +kernel
theorem dX12_readBelt_214 : decode cX12_readBelt 214 = .ok (.getfield 125, 3) := by decide +kernel
theorem dX12_readBelt_217 : decode cX12_readBelt 217 = .ok (.iconst (-1), 1) := by decide +kernel
theorem dX12_readBelt_218 : decode cX12_readBelt 218 = .ok (.if_icmp .ne 16, 3) := by decide +kernel
theorem dX12_readBelt_221 : decode cX12_readBelt 221 = .ok (.aload_n 0, 1) := by decide +kernel
theorem dX12_readBelt_222 : decode cX12_readBelt 222 = .ok (.invokevirtual 137, 3) := by decide +kernel
theorem dX12_readBelt_225 : decode cX12_readBelt 225 = .ok (.bipush 59, 2) := by decide +kernel
theorem dX12_readBelt_227 : decode cX12_readBelt 227 = .ok (.if_icmp .ne 7, 3) := by decide +kernel
theorem dX12_readBelt_230 : decode cX12_readBelt 230 = .ok (.iconst 1, 1) := by decide +kernel
theorem dX12_readBelt_231 : decode cX12_readBelt 231 = .ok (.goto 4, 3) := by decide +kernel
theorem dX12_readBelt_234 : decode cX12_readBelt 234 = .ok (.iconst 0, 1) := by decide +kernel
theorem dX12_readBelt_235 : decode cX12_readBelt 235 = .ok (.istore_n 2, 1) := by decide +kernel
theorem dX12_readBelt_236 : decode cX12_readBelt 236 = .ok (.aload_n 0, 1) := by decide +kernel
theorem dX12_readBelt_237 : decode cX12_readBelt 237 = .ok (.dup, 1) := by decide +kernel
theorem dX12_readBelt_238 : decode cX12_readBelt 238 = .ok (.getfield 118, 3) := by decide +kernel
theorem dX12_readBelt_241 : decode cX12_readBelt 241 = .ok (.iload_n 2, 1) := by decide +kernel
theorem dX12_readBelt_242 : decode cX12_readBelt 242 = .ok (.ifCond .eq 7, 3) := by decide +kernel
theorem dX12_readBelt_245 : decode cX12_readBelt 245 = .ok (.iconst 1, 1) := by decide +kernel
theorem dX12_readBelt_246 : decode cX12_readBelt 246 = .ok (.goto 4, 3) := by decide +kernel
theorem dX12_readBelt_249 : decode cX12_readBelt 249 = .ok (.iconst 0, 1) := by decide +kernel
theorem dX12_readBelt_250 : decode cX12_readBelt 250 = .ok (.iadd, 1) := by decide +kernel
theorem dX12_readBelt_251 : decode cX12_readBelt 251 = .ok (.putfield 118, 3) := by decide +kernel
theorem dX12_readBelt_254 : decode cX12_readBelt 254 = .ok (.goto (-206), 3) := by decide +kernel
theorem dX12_readBelt_257 : decode cX12_readBelt 257 = .ok (.aload_n 0, 1) := by decide +kernel
theorem dX12_readBelt_258 : decode cX12_readBelt 258 = .ok (.getfield 125, 3) := by decide +kernel
theorem dX12_readBelt_261 : decode cX12_readBelt 261 = .ok (.iconst (-1), 1) := by decide +kernel
theorem dX12_readBelt_262 : decode cX12_readBelt 262 = .ok (.if_icmp .ne 22, 3) := by decide +kernel
theorem dX12_readBelt_265 : decode cX12_readBelt 265 = .ok (.aload_n 0, 1) := by decide +kernel
theorem dX12_readBelt_266 : decode cX12_readBelt 266 = .ok (.invokevirtual 137, 3) := by decide +kernel
theorem dX12_readBelt_269 : decode cX12_readBelt 269 = .ok (.iconst (-1), 1) := by decide +kernel
theorem dX12_readBelt_270 : decode cX12_readBelt 270 = .ok (.if_icmp .ne 10, 3) := by decide +kernel
theorem dX12_readBelt_273 : decode cX12_readBelt 273 = .ok (.aload_n 0, 1) := by decide +kernel
theorem dX12_readBelt_274 : decode cX12_readBelt 274 = .ok (.invokevirtual 261, 3) := by decide +kernel
theorem dX12_readBelt_277 : decode cX12_readBelt 277 = .ok (.ifCond .ne 7, 3) := by decide +kernel
theorem dX12_readBelt_280 : decode cX12_readBelt 280 = .ok (.aload_n 0, 1) := by decide +kernel
theorem dX12_readBelt_281 : decode cX12_readBelt 281 = .ok (.invokevirtual 134, 3) := by decide +kernel
theorem dX12_readBelt_284 : decode cX12_readBelt 284 = .ok (.aload_n 0, 1) := by decide +kernel
theorem dX12_readBelt_285 : decode cX12_readBelt 285 = .ok (.getfield 125, 3) := by decide +kernel
theorem dX12_readBelt_288 : decode cX12_readBelt 288 = .ok (.ireturn, 1) := by decide +kernel
theorem dX12_fault_0 : decode cX12_fault 0 = .ok (.iload_n 1, 1) := by decide +kernel
theorem dX12_fault_1 : decode cX12_fault 1 = .ok (.ifCond .ne 10, 3) := by decide +kernel
theorem dX12_fault_4 : decode cX12_fault 4 = .ok (.aload_n 0, 1) := by decide +kernel
theorem dX12_fault_5 : decode cX12_fault 5 = .ok (.invokevirtual 265, 3) := by decide +kernel
theorem dX12_fault_8 : decode cX12_fault 8 = .ok (.goto 18, 3) := by decide +kernel
theorem dX12_fault_11 : decode cX12_fault 11 = .ok (.iload_n 1, 1) := by decide +kernel
theorem dX12_fault_12 : decode cX12_fault 12 = .ok (.iconst 1, 1) := by decide +kernel
theorem dX12_fault_13 : decode cX12_fault 13 = .ok (.if_icmp .ne 11, 3) := by decide +kernel
theorem dX12_fault_16 : decode cX12_fault 16 = .ok (.aload_n 0, 1) := by decide +kernel
theorem dX12_fault_17 : decode cX12_fault 17 = .ok (.iconst 4, 1) := by decide +kernel
theorem dX12_fault_18 : decode cX12_fault 18 = .ok (.invokevirtual 268, 3) := by decide +kernel
theorem dX12_fault_21 : decode cX12_fault 21 = .ok (.goto 5, 3) := by decide +kernel
theorem dX12_fault_24 : decode cX12_fault 24 = .ok (.bipush (-2), 2) := by decide +kernel
theorem dX12_fault_26 : decode cX12_fault 26 = .ok (.ireturn, 1) := by decide +kernel
theorem dX12_takeBelt_0 : decode cX12_takeBelt 0 = .ok (.aload_n 0, 1) := by decide +kernel
theorem dX12_takeBelt_1 : decode cX12_takeBelt 1 = .ok (.aload_n 0, 1) := by decide +kernel
theorem dX12_takeBelt_2 : decode cX12_takeBelt 2 = .ok (.getfield 247, 3) := by decide +kernel
theorem dX12_takeBelt_5 : decode cX12_takeBelt 5 = .ok (.putfield 271, 3) := by decide +kernel
theorem dX12_takeBelt_8 : decode cX12_takeBelt 8 = .ok (.aload_n 0, 1) := by decide +kernel
theorem dX12_takeBelt_9 : decode cX12_takeBelt 9 = .ok (.aload_n 0, 1) := by decide +kernel
theorem dX12_takeBelt_10 : decode cX12_takeBelt 10 = .ok (.getfield 40, 3) := by decide +kernel
theorem dX12_takeBelt_13 : decode cX12_takeBelt 13 = .ok (.iconst 1, 1) := by decide +kernel
theorem dX12_takeBelt_14 : decode cX12_takeBelt 14 = .ok (.iaload, 1) := by decide +kernel
theorem dX12_takeBelt_15 : decode cX12_takeBelt 15 = .ok (.putfield 274, 3) := by decide +kernel
theorem dX12_takeBelt_18 : decode cX12_takeBelt 18 = .ok (.iconst 0, 1) := by decide +kernel
theorem dX12_takeBelt_19 : decode cX12_takeBelt 19 = .ok (.istore_n 1, 1) := by decide +kernel
theorem dX12_takeBelt_20 : decode cX12_takeBelt 20 = .ok (.iload_n 1, 1) := by decide +kernel
theorem dX12_takeBelt_21 : decode cX12_takeBelt 21 = .ok (.bipush 32, 2) := by decide +kernel
theorem dX12_takeBelt_23 : decode cX12_takeBelt 23 = .ok (.if_icmp .ge 21, 3) := by decide +kernel
theorem dX12_takeBelt_26 : decode cX12_takeBelt 26 = .ok (.aload_n 0, 1) := by decide +kernel
theorem dX12_takeBelt_27 : decode cX12_takeBelt 27 = .ok (.getfield 49, 3) := by decide +kernel
theorem dX12_takeBelt_30 : decode cX12_takeBelt 30 = .ok (.iload_n 1, 1) := by decide +kernel
theorem dX12_takeBelt_31 : decode cX12_takeBelt 31 = .ok (.aload_n 0, 1) := by decide +kernel
theorem dX12_takeBelt_32 : decode cX12_takeBelt 32 = .ok (.getfield 43, 3) := by decide +kernel
theorem dX12_takeBelt_35 : decode cX12_takeBelt 35 = .ok (.iload_n 1, 1) := by decide +kernel
theorem dX12_takeBelt_36 : decode cX12_takeBelt 36 = .ok (.iaload, 1) := by decide +kernel
theorem dX12_takeBelt_37 : decode cX12_takeBelt 37 = .ok (.iastore, 1) := by decide +kernel
theorem dX12_takeBelt_38 : decode cX12_takeBelt 38 = .ok (.iinc 1 1, 3) := by decide +kernel
theorem dX12_takeBelt_41 : decode cX12_takeBelt 41 = .ok (.goto (-21), 3) := by decide +kernel
theorem dX12_takeBelt_44 : decode cX12_takeBelt 44 = .ok (.iconst 0, 1) := by decide +kernel
theorem dX12_takeBelt_45 : decode cX12_takeBelt 45 = .ok (.istore_n 1, 1) := by decide +kernel
theorem dX12_takeBelt_46 : decode cX12_takeBelt 46 = .ok (.iload_n 1, 1) := by decide +kernel
theorem dX12_takeBelt_47 : decode cX12_takeBelt 47 = .ok (.sipush 268, 3) := by decide +kernel
theorem dX12_takeBelt_50 : decode cX12_takeBelt 50 = .ok (.if_icmp .ge 16, 3) := by decide +kernel
theorem dX12_takeBelt_53 : decode cX12_takeBelt 53 = .ok (.aload_n 0, 1) := by decide +kernel
theorem dX12_takeBelt_54 : decode cX12_takeBelt 54 = .ok (.getfield 52, 3) := by decide +kernel
theorem dX12_takeBelt_57 : decode cX12_takeBelt 57 = .ok (.iload_n 1, 1) := by decide +kernel
theorem dX12_takeBelt_58 : decode cX12_takeBelt 58 = .ok (.iconst 0, 1) := by decide +kernel
theorem dX12_takeBelt_59 : decode cX12_takeBelt 59 = .ok (.iastore, 1) := by decide +kernel
theorem dX12_takeBelt_60 : decode cX12_takeBelt 60 = .ok (.iinc 1 1, 3) := by decide +kernel
theorem dX12_takeBelt_63 : decode cX12_takeBelt 63 = .ok (.goto (-17), 3) := by decide +kernel
theorem dX12_takeBelt_66 : decode cX12_takeBelt 66 = .ok (.iconst 0, 1) := by decide +kernel
theorem dX12_takeBelt_67 : decode cX12_takeBelt 67 = .ok (.istore_n 1, 1) := by decide +kernel
theorem dX12_takeBelt_68 : decode cX12_takeBelt 68 = .ok (.iload_n 1, 1) := by decide +kernel
theorem dX12_takeBelt_69 : decode cX12_takeBelt 69 = .ok (.aload_n 0, 1) := by decide +kernel
theorem dX12_takeBelt_70 : decode cX12_takeBelt 70 = .ok (.getfield 271, 3) := by decide +kernel
theorem dX12_takeBelt_73 : decode cX12_takeBelt 73 = .ok (.if_icmp .ge 23, 3) := by decide +kernel
theorem dX12_takeBelt_76 : decode cX12_takeBelt 76 = .ok (.aload_n 0, 1) := by decide +kernel
theorem dX12_takeBelt_77 : decode cX12_takeBelt 77 = .ok (.getfield 52, 3) := by decide +kernel
theorem dX12_takeBelt_80 : decode cX12_takeBelt 80 = .ok (.iconst 0, 1) := by decide +kernel
theorem dX12_takeBelt_81 : decode cX12_takeBelt 81 = .ok (.iload_n 1, 1) := by decide +kernel
theorem dX12_takeBelt_82 : decode cX12_takeBelt 82 = .ok (.iadd, 1) := by decide +kernel
theorem dX12_takeBelt_83 : decode cX12_takeBelt 83 = .ok (.aload_n 0, 1) := by decide +kernel
theorem dX12_takeBelt_84 : decode cX12_takeBelt 84 = .ok (.iload_n 1, 1) := by decide +kernel
theorem dX12_takeBelt_85 : decode cX12_takeBelt 85 = .ok (.iconst 2, 1) := by decide +kernel
theorem dX12_takeBelt_86 : decode cX12_takeBelt 86 = .ok (.invokevirtual 277, 3) := by decide +kernel
theorem dX12_takeBelt_89 : decode cX12_takeBelt 89 = .ok (.iastore, 1) := by decide +kernel
theorem dX12_takeBelt_90 : decode cX12_takeBelt 90 = .ok (.iinc 1 1, 3) := by decide +kernel
theorem dX12_takeBelt_93 : decode cX12_takeBelt 93 = .ok (.goto (-25), 3) := by decide +kernel
theorem dX12_takeBelt_96 : decode cX12_takeBelt 96 = .ok (.aload_n 0, 1) := by decide +kernel
theorem dX12_takeBelt_97 : decode cX12_takeBelt 97 = .ok (.getfield 52, 3) := by decide +kernel
theorem dX12_takeBelt_100 : decode cX12_takeBelt 100 = .ok (.bipush 85, 2) := by decide +kernel
theorem dX12_takeBelt_102 : decode cX12_takeBelt 102 = .ok (.aload_n 0, 1) := by decide +kernel
theorem dX12_takeBelt_103 : decode cX12_takeBelt 103 = .ok (.getfield 40, 3) := by decide +kernel
theorem dX12_takeBelt_106 : decode cX12_takeBelt 106 = .ok (.iconst 0, 1) := by decide +kernel
theorem dX12_takeBelt_107 : decode cX12_takeBelt 107 = .ok (.iaload, 1) := by decide +kernel
theorem dX12_takeBelt_108 : decode cX12_takeBelt 108 = .ok (.iastore, 1) := by decide +kernel
theorem dX12_takeBelt_109 : decode cX12_takeBelt 109 = .ok (.iconst 0, 1) := by decide +kernel
theorem dX12_takeBelt_110 : decode cX12_takeBelt 110 = .ok (.istore_n 1, 1) := by decide +kernel
theorem dX12_takeBelt_111 : decode cX12_takeBelt 111 = .ok (.iload_n 1, 1) := by decide +kernel
theorem dX12_takeBelt_112 : decode cX12_takeBelt 112 = .ok (.aload_n 0, 1) := by decide +kernel
theorem dX12_takeBelt_113 : decode cX12_takeBelt 113 = .ok (.getfield 250, 3) := by decide +kernel
theorem dX12_takeBelt_116 : decode cX12_takeBelt 116 = .ok (.if_icmp .ge 42, 3) := by decide +kernel
theorem dX12_takeBelt_119 : decode cX12_takeBelt 119 = .ok (.aload_n 0, 1) := by decide +kernel
theorem dX12_takeBelt_120 : decode cX12_takeBelt 120 = .ok (.aload_n 0, 1) := by decide +kernel
theorem dX12_takeBelt_121 : decode cX12_takeBelt 121 = .ok (.getfield 46, 3) := by decide +kernel
theorem dX12_takeBelt_124 : decode cX12_takeBelt 124 = .ok (.iconst 3, 1) := by decide +kernel
theorem dX12_takeBelt_125 : decode cX12_takeBelt 125 = .ok (.iload_n 1, 1) := by decide +kernel
theorem dX12_takeBelt_126 : decode cX12_takeBelt 126 = .ok (.imul, 1) := by decide +kernel
theorem dX12_takeBelt_127 : decode cX12_takeBelt 127 = .ok (.iaload, 1) := by decide +kernel
theorem dX12_takeBelt_128 : decode cX12_takeBelt 128 = .ok (.aload_n 0, 1) := by decide +kernel
theorem dX12_takeBelt_129 : decode cX12_takeBelt 129 = .ok (.getfield 46, 3) := by decide +kernel
theorem dX12_takeBelt_132 : decode cX12_takeBelt 132 = .ok (.iconst 3, 1) := by decide +kernel
theorem dX12_takeBelt_133 : decode cX12_takeBelt 133 = .ok (.iload_n 1, 1) := by decide +kernel
theorem dX12_takeBelt_134 : decode cX12_takeBelt 134 = .ok (.imul, 1) := by decide +kernel
theorem dX12_takeBelt_135 : decode cX12_takeBelt 135 = .ok (.iconst 1, 1) := by decide +kernel
theorem dX12_takeBelt_136 : decode cX12_takeBelt 136 = .ok (.iadd, 1) := by decide +kernel
theorem dX12_takeBelt_137 : decode cX12_takeBelt 137 = .ok (.iaload, 1) := by decide +kernel
theorem dX12_takeBelt_138 : decode cX12_takeBelt 138 = .ok (.aload_n 0, 1) := by decide +kernel
theorem dX12_takeBelt_139 : decode cX12_takeBelt 139 = .ok (.getfield 46, 3) := by decide +kernel
theorem dX12_takeBelt_142 : decode cX12_takeBelt 142 = .ok (.iconst 3, 1) := by decide +kernel
theorem dX12_takeBelt_143 : decode cX12_takeBelt 143 = .ok (.iload_n 1, 1) := by decide +kernel
theorem dX12_takeBelt_144 : decode cX12_takeBelt 144 = .ok (.imul, 1) := by decide +kernel
theorem dX12_takeBelt_145 : decode cX12_takeBelt 145 = .ok (.iconst 2, 1) := by decide +kernel
theorem dX12_takeBelt_146 : decode cX12_takeBelt 146 = .ok (.iadd, 1) := by decide +kernel
theorem dX12_takeBelt_147 : decode cX12_takeBelt 147 = .ok (.iaload, 1) := by decide +kernel
theorem dX12_takeBelt_148 : decode cX12_takeBelt 148 = .ok (.invokevirtual 280, 3) := by decide +kernel
theorem dX12_takeBelt_151 : decode cX12_takeBelt 151 = .ok (.pop, 1) := by decide +kernel
theorem dX12_takeBelt_152 : decode cX12_takeBelt 152 = .ok (.iinc 1 1, 3) := by decide +kernel
theorem dX12_takeBelt_155 : decode cX12_takeBelt 155 = .ok (.goto (-44), 3) := by decide +kernel
theorem dX12_takeBelt_158 : decode cX12_takeBelt 158 = .ok (.aload_n 0, 1) := by decide +kernel
theorem dX12_takeBelt_159 : decode cX12_takeBelt 159 = .ok (.iconst 0, 1) := by decide +kernel
theorem dX12_takeBelt_160 : decode cX12_takeBelt 160 = .ok (.putfield 283, 3) := by decide +kernel
theorem dX12_takeBelt_163 : decode cX12_takeBelt 163 = .ok (.aload_n 0, 1) := by decide +kernel
theorem dX12_takeBelt_164 : decode cX12_takeBelt 164 = .ok (.iconst 0, 1) := by decide +kernel
theorem dX12_takeBelt_165 : decode cX12_takeBelt 165 = .ok (.putfield 286, 3) := by decide +kernel
theorem dX12_takeBelt_168 : decode cX12_takeBelt 168 = .ok (.aload_n 0, 1) := by decide +kernel
theorem dX12_takeBelt_169 : decode cX12_takeBelt 169 = .ok (.iconst 0, 1) := by decide +kernel
theorem dX12_takeBelt_170 : decode cX12_takeBelt 170 = .ok (.putfield 289, 3) := by decide +kernel
theorem dX12_takeBelt_173 : decode cX12_takeBelt 173 = .ok (.aload_n 0, 1) := by decide +kernel
theorem dX12_takeBelt_174 : decode cX12_takeBelt 174 = .ok (.iconst 0, 1) := by decide +kernel
theorem dX12_takeBelt_175 : decode cX12_takeBelt 175 = .ok (.putfield 292, 3) := by decide +kernel
theorem dX12_takeBelt_178 : decode cX12_takeBelt 178 = .ok (.aload_n 0, 1) := by decide +kernel
theorem dX12_takeBelt_179 : decode cX12_takeBelt 179 = .ok (.getfield 271, 3) := by decide +kernel
theorem dX12_takeBelt_182 : decode cX12_takeBelt 182 = .ok (.ireturn, 1) := by decide +kernel
theorem dX12_text_0 : decode cX12_text 0 = .ok (.iload_n 1, 1) := by decide +kernel
theorem dX12_text_1 : decode cX12_text 1 = .ok (.ifCond .ne 21, 3) := by decide +kernel
theorem dX12_text_4 : decode cX12_text 4 = .ok (.aload_n 0, 1) := by decide +kernel
theorem dX12_text_5 : decode cX12_text 5 = .ok (.invokevirtual 265, 3) := by decide +kernel
theorem dX12_text_8 : decode cX12_text 8 = .ok (.iconst (-1), 1) := by decide +kernel
theorem dX12_text_9 : decode cX12_text 9 = .ok (.if_icmp .ne 13, 3) := by decide +kernel
theorem dX12_text_12 : decode cX12_text 12 = .ok (.aload_n 0, 1) := by decide +kernel
theorem dX12_text_13 : decode cX12_text 13 = .ok (.iconst 0, 1) := by decide +kernel
theorem dX12_text_14 : decode cX12_text 14 = .ok (.putfield 115, 3) := by decide +kernel
theorem dX12_text_17 : decode cX12_text 17 = .ok (.aload_n 0, 1) := by decide +kernel
theorem dX12_text_18 : decode cX12_text 18 = .ok (.invokevirtual 296, 3) := by decide +kernel
theorem dX12_text_21 : decode cX12_text 21 = .ok (.ireturn, 1) := by decide +kernel
theorem dX12_text_22 : decode cX12_text 22 = .ok (.iload_n 1, 1) := by decide +kernel
theorem dX12_text_23 : decode cX12_text 23 = .ok (.iconst 1, 1) := by decide +kernel
theorem dX12_text_24 : decode cX12_text 24 = .ok (.if_icmp .ne 45, 3) := by decide +kernel
theorem dX12_text_27 : decode cX12_text 27 = .ok (.aload_n 0, 1) := by decide +kernel
theorem dX12_text_28 : decode cX12_text 28 = .ok (.getfield 299, 3) := by decide +kernel
theorem dX12_text_31 : decode cX12_text 31 = .ok (.iconst 4, 1) := by decide +kernel
theorem dX12_text_32 : decode cX12_text 32 = .ok (.if_icmp .ge 37, 3) := by decide +kernel
theorem dX12_text_35 : decode cX12_text 35 = .ok (.aload_n 0, 1) := by decide +kernel
theorem dX12_text_36 : decode cX12_text 36 = .ok (.aload_n 0, 1) := by decide +kernel
theorem dX12_text_37 : decode cX12_text 37 = .ok (.getfield 299, 3) := by decide +kernel
theorem dX12_text_40 : decode cX12_text 40 = .ok (.invokevirtual 268, 3) := by decide +kernel
theorem dX12_text_43 : decode cX12_text 43 = .ok (.iconst (-1), 1) := by decide +kernel
theorem dX12_text_44 : decode cX12_text 44 = .ok (.if_icmp .ne 25, 3) := by decide +kernel
theorem dX12_text_47 : decode cX12_text 47 = .ok (.aload_n 0, 1) := by decide +kernel
theorem dX12_text_48 : decode cX12_text 48 = .ok (.iconst 0, 1) := by decide +kernel
theorem dX12_text_49 : decode cX12_text 49 = .ok (.putfield 115, 3) := by decide +kernel
theorem dX12_text_52 : decode cX12_text 52 = .ok (.aload_n 0, 1) := by decide +kernel
theorem dX12_text_53 : decode cX12_text 53 = .ok (.dup, 1) := by decide +kernel
theorem dX12_text_54 : decode cX12_text 54 = .ok (.getfield 299, 3) := by decide +kernel
theorem dX12_text_57 : decode cX12_text 57 = .ok (.iconst 1, 1) := by decide +kernel
theorem dX12_text_58 : decode cX12_text 58 = .ok (.iadd, 1) := by decide +kernel
theorem dX12_text_59 : decode cX12_text 59 = .ok (.putfield 299, 3) := by decide +kernel
theorem dX12_text_62 : decode cX12_text 62 = .ok (.aload_n 0, 1) := by decide +kernel
theorem dX12_text_63 : decode cX12_text 63 = .ok (.getfield 299, 3) := by decide +kernel
theorem dX12_text_66 : decode cX12_text 66 = .ok (.iconst 1, 1) := by decide +kernel
theorem dX12_text_67 : decode cX12_text 67 = .ok (.isub, 1) := by decide +kernel
theorem dX12_text_68 : decode cX12_text 68 = .ok (.ireturn, 1) := by decide +kernel
theorem dX12_text_69 : decode cX12_text 69 = .ok (.iconst (-1), 1) := by decide +kernel
theorem dX12_text_70 : decode cX12_text 70 = .ok (.ireturn, 1) := by decide +kernel
theorem dX12_of_0 : decode cX12_of 0 = .ok (.aload_n 0, 1) := by decide +kernel
theorem dX12_of_1 : decode cX12_of 1 = .ok (.getfield 49, 3) := by decide +kernel
theorem dX12_of_4 : decode cX12_of 4 = .ok (.iconst 4, 1) := by decide +kernel
theorem dX12_of_5 : decode cX12_of 5 = .ok (.iload_n 1, 1) := by decide +kernel
theorem dX12_of_6 : decode cX12_of 6 = .ok (.imul, 1) := by decide +kernel
theorem dX12_of_7 : decode cX12_of 7 = .ok (.iload_n 2, 1) := by decide +kernel
theorem dX12_of_8 : decode cX12_of 8 = .ok (.iadd, 1) := by decide +kernel
theorem dX12_of_9 : decode cX12_of 9 = .ok (.iaload, 1) := by decide +kernel
theorem dX12_of_10 : decode cX12_of 10 = .ok (.ireturn, 1) := by decide +kernel
theorem dX12_ofWire_0 : decode cX12_ofWire 0 = .ok (.aload_n 0, 1) := by decide +kernel
theorem dX12_ofWire_1 : decode cX12_ofWire 1 = .ok (.getfield 52, 3) := by decide +kernel
theorem dX12_ofWire_4 : decode cX12_ofWire 4 = .ok (.bipush 16, 2) := by decide +kernel
theorem dX12_ofWire_6 : decode cX12_ofWire 6 = .ok (.iconst 4, 1) := by decide +kernel
theorem dX12_ofWire_7 : decode cX12_ofWire 7 = .ok (.iload_n 1, 1) := by decide +kernel
theorem dX12_ofWire_8 : decode cX12_ofWire 8 = .ok (.imul, 1) := by decide +kernel
theorem dX12_ofWire_9 : decode cX12_ofWire 9 = .ok (.iadd, 1) := by decide +kernel
theorem dX12_ofWire_10 : decode cX12_ofWire 10 = .ok (.iload_n 2, 1) := by decide +kernel
theorem dX12_ofWire_11 : decode cX12_ofWire 11 = .ok (.iadd, 1) := by decide +kernel
theorem dX12_ofWire_12 : decode cX12_ofWire 12 = .ok (.iaload, 1) := by decide +kernel
theorem dX12_ofWire_13 : decode cX12_ofWire 13 = .ok (.ireturn, 1) := by decide +kernel
theorem dX12_putWire_0 : decode cX12_putWire 0 = .ok (.aload_n 0, 1) := by decide +kernel
theorem dX12_putWire_1 : decode cX12_putWire 1 = .ok (.getfield 52, 3) := by decide +kernel
theorem dX12_putWire_4 : decode cX12_putWire 4 = .ok (.bipush 16, 2) := by decide +kernel
theorem dX12_putWire_6 : decode cX12_putWire 6 = .ok (.iconst 4, 1) := by decide +kernel
theorem dX12_putWire_7 : decode cX12_putWire 7 = .ok (.iload_n 1, 1) := by decide +kernel
theorem dX12_putWire_8 : decode cX12_putWire 8 = .ok (.imul, 1) := by decide +kernel
theorem dX12_putWire_9 : decode cX12_putWire 9 = .ok (.iadd, 1) := by decide +kernel
theorem dX12_putWire_10 : decode cX12_putWire 10 = .ok (.iload_n 2, 1) := by decide +kernel
theorem dX12_putWire_11 : decode cX12_putWire 11 = .ok (.iadd, 1) := by decide +kernel
theorem dX12_putWire_12 : decode cX12_putWire 12 = .ok (.iload_n 3, 1) := by decide +kernel
theorem dX12_putWire_13 : decode cX12_putWire 13 = .ok (.iastore, 1) := by decide +kernel
theorem dX12_putWire_14 : decode cX12_putWire 14 = .ok (.return_, 1) := by decide +kernel
theorem dX12_string_0 : decode cX12_string 0 = .ok (.aload_n 0, 1) := by decide +kernel
theorem dX12_string_1 : decode cX12_string 1 = .ok (.getfield 52, 3) := by decide +kernel
theorem dX12_string_4 : decode cX12_string 4 = .ok (.bipush 84, 2) := by decide +kernel
theorem dX12_string_6 : decode cX12_string 6 = .ok (.iaload, 1) := by decide +kernel
theorem dX12_string_7 : decode cX12_string 7 = .ok (.istore 4, 2) := by decide +kernel
theorem dX12_string_9 : decode cX12_string 9 = .ok (.aload_n 0, 1) := by decide +kernel
theorem dX12_string_10 : decode cX12_string 10 = .ok (.getfield 52, 3) := by decide +kernel
theorem dX12_string_13 : decode cX12_string 13 = .ok (.bipush 84, 2) := by decide +kernel
theorem dX12_string_15 : decode cX12_string 15 = .ok (.dup2, 1) := by decide +kernel
theorem dX12_string_16 : decode cX12_string 16 = .ok (.iaload, 1) := by decide +kernel
theorem dX12_string_17 : decode cX12_string 17 = .ok (.iconst 1, 1) := by decide +kernel
theorem dX12_string_18 : decode cX12_string 18 = .ok (.iadd, 1) := by decide +kernel
theorem dX12_string_19 : decode cX12_string 19 = .ok (.iastore, 1) := by decide +kernel
theorem dX12_string_20 : decode cX12_string 20 = .ok (.aload_n 0, 1) := by decide +kernel
theorem dX12_string_21 : decode cX12_string 21 = .ok (.iload 4, 2) := by decide +kernel
theorem dX12_string_23 : decode cX12_string 23 = .ok (.iconst 0, 1) := by decide +kernel
theorem dX12_string_24 : decode cX12_string 24 = .ok (.iload_n 1, 1) := by decide +kernel
theorem dX12_string_25 : decode cX12_string 25 = .ok (.invokevirtual 302, 3) := by decide +kernel
theorem dX12_string_28 : decode cX12_string 28 = .ok (.aload_n 0, 1) := by decide +kernel
theorem dX12_string_29 : decode cX12_string 29 = .ok (.iload 4, 2) := by decide +kernel
theorem dX12_string_31 : decode cX12_string 31 = .ok (.iconst 1, 1) := by decide +kernel
theorem dX12_string_32 : decode cX12_string 32 = .ok (.iload_n 2, 1) := by decide +kernel
theorem dX12_string_33 : decode cX12_string 33 = .ok (.invokevirtual 302, 3) := by decide +kernel
theorem dX12_string_36 : decode cX12_string 36 = .ok (.aload_n 0, 1) := by decide +kernel
theorem dX12_string_37 : decode cX12_string 37 = .ok (.iload 4, 2) := by decide +kernel
theorem dX12_string_39 : decode cX12_string 39 = .ok (.iconst 2, 1) := by decide +kernel
theorem dX12_string_40 : decode cX12_string 40 = .ok (.iload_n 3, 1) := by decide +kernel
theorem dX12_string_41 : decode cX12_string 41 = .ok (.invokevirtual 302, 3) := by decide +kernel
theorem dX12_string_44 : decode cX12_string 44 = .ok (.aload_n 0, 1) := by decide +kernel
theorem dX12_string_45 : decode cX12_string 45 = .ok (.iload 4, 2) := by decide +kernel
theorem dX12_string_47 : decode cX12_string 47 = .ok (.iconst 3, 1) := by decide +kernel
theorem dX12_string_48 : decode cX12_string 48 = .ok (.iconst 0, 1) := by decide +kernel
theorem dX12_string_49 : decode cX12_string 49 = .ok (.invokevirtual 302, 3) := by decide +kernel
theorem dX12_string_52 : decode cX12_string 52 = .ok (.iload 4, 2) := by decide +kernel
theorem dX12_string_54 : decode cX12_string 54 = .ok (.ireturn, 1) := by decide +kernel
theorem dX12_isHouse_0 : decode cX12_isHouse 0 = .ok (.iload_n 1, 1) := by decide +kernel
theorem dX12_isHouse_1 : decode cX12_isHouse 1 = .ok (.iconst 0, 1) := by decide +kernel
theorem dX12_isHouse_2 : decode cX12_isHouse 2 = .ok (.aload_n 0, 1) := by decide +kernel
theorem dX12_isHouse_3 : decode cX12_isHouse 3 = .ok (.getfield 271, 3) := by decide +kernel
theorem dX12_isHouse_6 : decode cX12_isHouse 6 = .ok (.iconst 1, 1) := by decide +kernel
theorem dX12_isHouse_7 : decode cX12_isHouse 7 = .ok (.isub, 1) := by decide +kernel
theorem dX12_isHouse_8 : decode cX12_isHouse 8 = .ok (.invokestatic 223, 3) := by decide +kernel
theorem dX12_isHouse_11 : decode cX12_isHouse 11 = .ok (.ireturn, 1) := by decide +kernel
theorem dX12_isWire_0 : decode cX12_isWire 0 = .ok (.iload_n 1, 1) := by decide +kernel
theorem dX12_isWire_1 : decode cX12_isWire 1 = .ok (.iconst 0, 1) := by decide +kernel
theorem dX12_isWire_2 : decode cX12_isWire 2 = .ok (.aload_n 0, 1) := by decide +kernel
theorem dX12_isWire_3 : decode cX12_isWire 3 = .ok (.getfield 52, 3) := by decide +kernel
theorem dX12_isWire_6 : decode cX12_isWire 6 = .ok (.bipush 84, 2) := by decide +kernel
theorem dX12_isWire_8 : decode cX12_isWire 8 = .ok (.iaload, 1) := by decide +kernel
theorem dX12_isWire_9 : decode cX12_isWire 9 = .ok (.iconst 1, 1) := by decide +kernel
theorem dX12_isWire_10 : decode cX12_isWire 10 = .ok (.isub, 1) := by decide +kernel
theorem dX12_isWire_11 : decode cX12_isWire 11 = .ok (.invokestatic 223, 3) := by decide +kernel
theorem dX12_isWire_14 : decode cX12_isWire 14 = .ok (.ireturn, 1) := by decide +kernel
theorem dX12_isLive_0 : decode cX12_isLive 0 = .ok (.aload_n 0, 1) := by decide +kernel
theorem dX12_isLive_1 : decode cX12_isLive 1 = .ok (.iload_n 1, 1) := by decide +kernel
theorem dX12_isLive_2 : decode cX12_isLive 2 = .ok (.iconst 3, 1) := by decide +kernel
theorem dX12_isLive_3 : decode cX12_isLive 3 = .ok (.invokevirtual 306, 3) := by decide +kernel
theorem dX12_isLive_6 : decode cX12_isLive 6 = .ok (.ifCond .ne 18, 3) := by decide +kernel
theorem dX12_isLive_9 : decode cX12_isLive 9 = .ok (.aload_n 0, 1) := by decide +kernel
theorem dX12_isLive_10 : decode cX12_isLive 10 = .ok (.iload_n 1, 1) := by decide +kernel
theorem dX12_isLive_11 : decode cX12_isLive 11 = .ok (.iconst 2, 1) := by decide +kernel
theorem dX12_isLive_12 : decode cX12_isLive 12 = .ok (.invokevirtual 306, 3) := by decide +kernel
theorem dX12_isLive_15 : decode cX12_isLive 15 = .ok (.bipush 9, 2) := by decide +kernel
theorem dX12_isLive_17 : decode cX12_isLive 17 = .ok (.if_icmp .ge 7, 3) := by decide +kernel
theorem dX12_isLive_20 : decode cX12_isLive 20 = .ok (.iconst 1, 1) := by decide +kernel
theorem dX12_isLive_21 : decode cX12_isLive 21 = .ok (.goto 4, 3) := by decide +kernel
theorem dX12_isLive_24 : decode cX12_isLive 24 = .ok (.iconst 0, 1) := by decide +kernel
theorem dX12_isLive_25 : decode cX12_isLive 25 = .ok (.ireturn, 1) := by decide +kernel
theorem dX12_isAt_0 : decode cX12_isAt 0 = .ok (.aload_n 0, 1) := by decide +kernel
theorem dX12_isAt_1 : decode cX12_isAt 1 = .ok (.iload_n 1, 1) := by decide +kernel
theorem dX12_isAt_2 : decode cX12_isAt 2 = .ok (.iconst 0, 1) := by decide +kernel
theorem dX12_isAt_3 : decode cX12_isAt 3 = .ok (.invokevirtual 306, 3) := by decide +kernel
theorem dX12_isAt_6 : decode cX12_isAt 6 = .ok (.iload_n 2, 1) := by decide +kernel
theorem dX12_isAt_7 : decode cX12_isAt 7 = .ok (.if_icmp .eq 13, 3) := by decide +kernel
theorem dX12_isAt_10 : decode cX12_isAt 10 = .ok (.aload_n 0, 1) := by decide +kernel
theorem dX12_isAt_11 : decode cX12_isAt 11 = .ok (.iload_n 1, 1) := by decide +kernel
theorem dX12_isAt_12 : decode cX12_isAt 12 = .ok (.iconst 1, 1) := by decide +kernel
theorem dX12_isAt_13 : decode cX12_isAt 13 = .ok (.invokevirtual 306, 3) := by decide +kernel
theorem dX12_isAt_16 : decode cX12_isAt 16 = .ok (.iload_n 2, 1) := by decide +kernel
theorem dX12_isAt_17 : decode cX12_isAt 17 = .ok (.if_icmp .ne 7, 3) := by decide +kernel
theorem dX12_isAt_20 : decode cX12_isAt 20 = .ok (.iconst 1, 1) := by decide +kernel
theorem dX12_isAt_21 : decode cX12_isAt 21 = .ok (.goto 4, 3) := by decide +kernel
theorem dX12_isAt_24 : decode cX12_isAt 24 = .ok (.iconst 0, 1) := by decide +kernel
theorem dX12_isAt_25 : decode cX12_isAt 25 = .ok (.ireturn, 1) := by decide +kernel
theorem dX12_farOf_0 : decode cX12_farOf 0 = .ok (.aload_n 0, 1) := by decide +kernel
theorem dX12_farOf_1 : decode cX12_farOf 1 = .ok (.iload_n 1, 1) := by decide +kernel
theorem dX12_farOf_2 : decode cX12_farOf 2 = .ok (.iconst 0, 1) := by decide +kernel
theorem dX12_farOf_3 : decode cX12_farOf 3 = .ok (.invokevirtual 277, 3) := by decide +kernel
theorem dX12_farOf_6 : decode cX12_farOf 6 = .ok (.aload_n 0, 1) := by decide +kernel
theorem dX12_farOf_7 : decode cX12_farOf 7 = .ok (.iload_n 2, 1) := by decide +kernel
theorem dX12_farOf_8 : decode cX12_farOf 8 = .ok (.iconst 0, 1) := by decide +kernel
theorem dX12_farOf_9 : decode cX12_farOf 9 = .ok (.invokevirtual 277, 3) := by decide +kernel
theorem dX12_farOf_12 : decode cX12_farOf 12 = .ok (.isub, 1) := by decide +kernel
theorem dX12_farOf_13 : decode cX12_farOf 13 = .ok (.invokestatic 309, 3) := by decide +kernel
theorem dX12_farOf_16 : decode cX12_farOf 16 = .ok (.ireturn, 1) := by decide +kernel
theorem dX12_liveAt_0 : decode cX12_liveAt 0 = .ok (.iconst 0, 1) := by decide +kernel
theorem dX12_liveAt_1 : decode cX12_liveAt 1 = .ok (.istore_n 3, 1) := by decide +kernel
theorem dX12_liveAt_2 : decode cX12_liveAt 2 = .ok (.iconst 0, 1) := by decide +kernel
theorem dX12_liveAt_3 : decode cX12_liveAt 3 = .ok (.istore 4, 2) := by decide +kernel
theorem dX12_liveAt_5 : decode cX12_liveAt 5 = .ok (.iload 4, 2) := by decide +kernel
theorem dX12_liveAt_7 : decode cX12_liveAt 7 = .ok (.aload_n 0, 1) := by decide +kernel
theorem dX12_liveAt_8 : decode cX12_liveAt 8 = .ok (.getfield 52, 3) := by decide +kernel
theorem dX12_liveAt_11 : decode cX12_liveAt 11 = .ok (.bipush 84, 2) := by decide +kernel
theorem dX12_liveAt_13 : decode cX12_liveAt 13 = .ok (.iaload, 1) := by decide +kernel
theorem dX12_liveAt_14 : decode cX12_liveAt 14 = .ok (.if_icmp .ge 42, 3) := by decide +kernel
theorem dX12_liveAt_17 : decode cX12_liveAt 17 = .ok (.iload_n 3, 1) := by decide +kernel
theorem dX12_liveAt_18 : decode cX12_liveAt 18 = .ok (.iload 4, 2) := by decide +kernel
theorem dX12_liveAt_20 : decode cX12_liveAt 20 = .ok (.iload_n 2, 1) := by decide +kernel
theorem dX12_liveAt_21 : decode cX12_liveAt 21 = .ok (.if_icmp .eq 26, 3) := by decide +kernel
theorem dX12_liveAt_24 : decode cX12_liveAt 24 = .ok (.aload_n 0, 1) := by decide +kernel
theorem dX12_liveAt_25 : decode cX12_liveAt 25 = .ok (.iload 4, 2) := by decide +kernel
theorem dX12_liveAt_27 : decode cX12_liveAt 27 = .ok (.invokevirtual 312, 3) := by decide +kernel
theorem dX12_liveAt_30 : decode cX12_liveAt 30 = .ok (.ifCond .eq 17, 3) := by decide +kernel
theorem dX12_liveAt_33 : decode cX12_liveAt 33 = .ok (.aload_n 0, 1) := by decide +kernel
theorem dX12_liveAt_34 : decode cX12_liveAt 34 = .ok (.iload 4, 2) := by decide +kernel
theorem dX12_liveAt_36 : decode cX12_liveAt 36 = .ok (.iload_n 1, 1) := by decide +kernel
theorem dX12_liveAt_37 : decode cX12_liveAt 37 = .ok (.invokevirtual 315, 3) := by decide +kernel
theorem dX12_liveAt_40 : decode cX12_liveAt 40 = .ok (.ifCond .eq 7, 3) := by decide +kernel
theorem dX12_liveAt_43 : decode cX12_liveAt 43 = .ok (.iconst 1, 1) := by decide +kernel
theorem dX12_liveAt_44 : decode cX12_liveAt 44 = .ok (.goto 4, 3) := by decide +kernel
theorem dX12_liveAt_47 : decode cX12_liveAt 47 = .ok (.iconst 0, 1) := by decide +kernel
theorem dX12_liveAt_48 : decode cX12_liveAt 48 = .ok (.iadd, 1) := by decide +kernel
theorem dX12_liveAt_49 : decode cX12_liveAt 49 = .ok (.istore_n 3, 1) := by decide +kernel
theorem dX12_liveAt_50 : decode cX12_liveAt 50 = .ok (.iinc 4 1, 3) := by decide +kernel
theorem dX12_liveAt_53 : decode cX12_liveAt 53 = .ok (.goto (-48), 3) := by decide +kernel
theorem dX12_liveAt_56 : decode cX12_liveAt 56 = .ok (.iload_n 3, 1) := by decide +kernel
theorem dX12_liveAt_57 : decode cX12_liveAt 57 = .ok (.ireturn, 1) := by decide +kernel
theorem dX12_allLive_0 : decode cX12_allLive 0 = .ok (.iconst 0, 1) := by decide +kernel
theorem dX12_allLive_1 : decode cX12_allLive 1 = .ok (.istore_n 1, 1) := by decide +kernel
theorem dX12_allLive_2 : decode cX12_allLive 2 = .ok (.iconst 0, 1) := by decide +kernel
theorem dX12_allLive_3 : decode cX12_allLive 3 = .ok (.istore_n 2, 1) := by decide +kernel
theorem dX12_allLive_4 : decode cX12_allLive 4 = .ok (.iload_n 2, 1) := by decide +kernel
theorem dX12_allLive_5 : decode cX12_allLive 5 = .ok (.aload_n 0, 1) := by decide +kernel
theorem dX12_allLive_6 : decode cX12_allLive 6 = .ok (.getfield 52, 3) := by decide +kernel
theorem dX12_allLive_9 : decode cX12_allLive 9 = .ok (.bipush 84, 2) := by decide +kernel
theorem dX12_allLive_11 : decode cX12_allLive 11 = .ok (.iaload, 1) := by decide +kernel
theorem dX12_allLive_12 : decode cX12_allLive 12 = .ok (.if_icmp .ge 27, 3) := by decide +kernel
theorem dX12_allLive_15 : decode cX12_allLive 15 = .ok (.iload_n 1, 1) := by decide +kernel
theorem dX12_allLive_16 : decode cX12_allLive 16 = .ok (.aload_n 0, 1) := by decide +kernel
theorem dX12_allLive_17 : decode cX12_allLive 17 = .ok (.iload_n 2, 1) := by decide +kernel
theorem dX12_allLive_18 : decode cX12_allLive 18 = .ok (.invokevirtual 312, 3) := by decide +kernel
theorem dX12_allLive_21 : decode cX12_allLive 21 = .ok (.ifCond .eq 9, 3) := by decide +kernel
theorem dX12_allLive_24 : decode cX12_allLive 24 = .ok (.iconst 1, 1) := by decide +kernel
theorem dX12_allLive_25 : decode cX12_allLive 25 = .ok (.iload_n 2, 1) := by decide +kernel
theorem dX12_allLive_26 : decode cX12_allLive 26 = .ok (.ishl, 1) := by decide +kernel
theorem dX12_allLive_27 : decode cX12_allLive 27 = .ok (.goto 4, 3) := by decide +kernel
theorem dX12_allLive_30 : decode cX12_allLive 30 = .ok (.iconst 0, 1) := by decide +kernel
theorem dX12_allLive_31 : decode cX12_allLive 31 = .ok (.ior, 1) := by decide +kernel
theorem dX12_allLive_32 : decode cX12_allLive 32 = .ok (.istore_n 1, 1) := by decide +kernel
theorem dX12_allLive_33 : decode cX12_allLive 33 = .ok (.iinc 2 1, 3) := by decide +kernel
theorem dX12_allLive_36 : decode cX12_allLive 36 = .ok (.goto (-32), 3) := by decide +kernel
theorem dX12_allLive_39 : decode cX12_allLive 39 = .ok (.iload_n 1, 1) := by decide +kernel
theorem dX12_allLive_40 : decode cX12_allLive 40 = .ok (.ireturn, 1) := by decide +kernel
theorem dX12_areTied_0 : decode cX12_areTied 0 = .ok (.iconst 0, 1) := by decide +kernel
theorem dX12_areTied_1 : decode cX12_areTied 1 = .ok (.istore_n 3, 1) := by decide +kernel
theorem dX12_areTied_2 : decode cX12_areTied 2 = .ok (.iload_n 3, 1) := by decide +kernel
theorem dX12_areTied_3 : decode cX12_areTied 3 = .ok (.aload_n 0, 1) := by decide +kernel
theorem dX12_areTied_4 : decode cX12_areTied 4 = .ok (.getfield 52, 3) := by decide +kernel
theorem dX12_areTied_7 : decode cX12_areTied 7 = .ok (.bipush 84, 2) := by decide +kernel
theorem dX12_areTied_9 : decode cX12_areTied 9 = .ok (.iaload, 1) := by decide +kernel
theorem dX12_areTied_10 : decode cX12_areTied 10 = .ok (.if_icmp .ge 38, 3) := by decide +kernel
theorem dX12_areTied_13 : decode cX12_areTied 13 = .ok (.aload_n 0, 1) := by decide +kernel
theorem dX12_areTied_14 : decode cX12_areTied 14 = .ok (.iload_n 3, 1) := by decide +kernel
theorem dX12_areTied_15 : decode cX12_areTied 15 = .ok (.iconst 3, 1) := by decide +kernel
theorem dX12_areTied_16 : decode cX12_areTied 16 = .ok (.invokevirtual 306, 3) := by decide +kernel
theorem dX12_areTied_19 : decode cX12_areTied 19 = .ok (.ifCond .ne 23, 3) := by decide +kernel
theorem dX12_areTied_22 : decode cX12_areTied 22 = .ok (.aload_n 0, 1) := by decide +kernel
theorem dX12_areTied_23 : decode cX12_areTied 23 = .ok (.iload_n 3, 1) := by decide +kernel
theorem dX12_areTied_24 : decode cX12_areTied 24 = .ok (.iload_n 1, 1) := by decide +kernel
theorem dX12_areTied_25 : decode cX12_areTied 25 = .ok (.invokevirtual 315, 3) := by decide +kernel
theorem dX12_areTied_28 : decode cX12_areTied 28 = .ok (.ifCond .eq 14, 3) := by decide +kernel
theorem dX12_areTied_31 : decode cX12_areTied 31 = .ok (.aload_n 0, 1) := by decide +kernel
theorem dX12_areTied_32 : decode cX12_areTied 32 = .ok (.iload_n 3, 1) := by decide +kernel
theorem dX12_areTied_33 : decode cX12_areTied 33 = .ok (.iload_n 2, 1) := by decide +kernel
theorem dX12_areTied_34 : decode cX12_areTied 34 = .ok (.invokevirtual 315, 3) := by decide +kernel
theorem dX12_areTied_37 : decode cX12_areTied 37 = .ok (.ifCond .eq 5, 3) := by decide +kernel
theorem dX12_areTied_40 : decode cX12_areTied 40 = .ok (.iconst 1, 1) := by decide +kernel
theorem dX12_areTied_41 : decode cX12_areTied 41 = .ok (.ireturn, 1) := by decide +kernel
theorem dX12_areTied_42 : decode cX12_areTied 42 = .ok (.iinc 3 1, 3) := by decide +kernel
theorem dX12_areTied_45 : decode cX12_areTied 45 = .ok (.goto (-43), 3) := by decide +kernel
theorem dX12_areTied_48 : decode cX12_areTied 48 = .ok (.iconst 0, 1) := by decide +kernel
theorem dX12_areTied_49 : decode cX12_areTied 49 = .ok (.ireturn, 1) := by decide +kernel
theorem dX12_areChapels_0 : decode cX12_areChapels 0 = .ok (.aload_n 0, 1) := by decide +kernel
theorem dX12_areChapels_1 : decode cX12_areChapels 1 = .ok (.iload_n 1, 1) := by decide +kernel
theorem dX12_areChapels_2 : decode cX12_areChapels 2 = .ok (.iconst 3, 1) := by decide +kernel
theorem dX12_areChapels_3 : decode cX12_areChapels 3 = .ok (.invokevirtual 277, 3) := by decide +kernel
theorem dX12_areChapels_6 : decode cX12_areChapels 6 = .ok (.iconst 2, 1) := by decide +kernel
theorem dX12_areChapels_7 : decode cX12_areChapels 7 = .ok (.if_icmp .ne 17, 3) := by decide +kernel
theorem dX12_areChapels_10 : decode cX12_areChapels 10 = .ok (.aload_n 0, 1) := by decide +kernel
theorem dX12_areChapels_11 : decode cX12_areChapels 11 = .ok (.iload_n 2, 1) := by decide +kernel
theorem dX12_areChapels_12 : decode cX12_areChapels 12 = .ok (.iconst 3, 1) := by decide +kernel
theorem dX12_areChapels_13 : decode cX12_areChapels 13 = .ok (.invokevirtual 277, 3) := by decide +kernel
theorem dX12_areChapels_16 : decode cX12_areChapels 16 = .ok (.iconst 2, 1) := by decide +kernel
theorem dX12_areChapels_17 : decode cX12_areChapels 17 = .ok (.if_icmp .ne 7, 3) := by decide +kernel
theorem dX12_areChapels_20 : decode cX12_areChapels 20 = .ok (.iconst 1, 1) := by decide +kernel
theorem dX12_areChapels_21 : decode cX12_areChapels 21 = .ok (.goto 4, 3) := by decide +kernel
theorem dX12_areChapels_24 : decode cX12_areChapels 24 = .ok (.iconst 0, 1) := by decide +kernel
theorem dX12_areChapels_25 : decode cX12_areChapels 25 = .ok (.ireturn, 1) := by decide +kernel
theorem dX12_sendPart_0 : decode cX12_sendPart 0 = .ok (.aload_n 0, 1) := by decide +kernel
theorem dX12_sendPart_1 : decode cX12_sendPart 1 = .ok (.getfield 65, 3) := by decide +kernel
theorem dX12_sendPart_4 : decode cX12_sendPart 4 = .ok (.aload_n 0, 1) := by decide +kernel
theorem dX12_sendPart_5 : decode cX12_sendPart 5 = .ok (.getfield 318, 3) := by decide +kernel
theorem dX12_sendPart_8 : decode cX12_sendPart 8 = .ok (.iload_n 1, 1) := by decide +kernel
theorem dX12_sendPart_9 : decode cX12_sendPart 9 = .ok (.iastore, 1) := by decide +kernel
theorem dX12_sendPart_10 : decode cX12_sendPart 10 = .ok (.aload_n 0, 1) := by decide +kernel
theorem dX12_sendPart_11 : decode cX12_sendPart 11 = .ok (.getfield 68, 3) := by decide +kernel
theorem dX12_sendPart_14 : decode cX12_sendPart 14 = .ok (.aload_n 0, 1) := by decide +kernel
theorem dX12_sendPart_15 : decode cX12_sendPart 15 = .ok (.getfield 318, 3) := by decide +kernel
theorem dX12_sendPart_18 : decode cX12_sendPart 18 = .ok (.iload_n 2, 1) := by decide +kernel
theorem dX12_sendPart_19 : decode cX12_sendPart 19 = .ok (.iastore, 1) := by decide +kernel
theorem dX12_sendPart_20 : decode cX12_sendPart 20 = .ok (.aload_n 0, 1) := by decide +kernel
theorem dX12_sendPart_21 : decode cX12_sendPart 21 = .ok (.getfield 71, 3) := by decide +kernel
theorem dX12_sendPart_24 : decode cX12_sendPart 24 = .ok (.aload_n 0, 1) := by decide +kernel
theorem dX12_sendPart_25 : decode cX12_sendPart 25 = .ok (.getfield 318, 3) := by decide +kernel
theorem dX12_sendPart_28 : decode cX12_sendPart 28 = .ok (.iload_n 3, 1) := by decide +kernel
theorem dX12_sendPart_29 : decode cX12_sendPart 29 = .ok (.iastore, 1) := by decide +kernel
theorem dX12_sendPart_30 : decode cX12_sendPart 30 = .ok (.aload_n 0, 1) := by decide +kernel
theorem dX12_sendPart_31 : decode cX12_sendPart 31 = .ok (.dup, 1) := by decide +kernel
theorem dX12_sendPart_32 : decode cX12_sendPart 32 = .ok (.getfield 318, 3) := by decide +kernel
theorem dX12_sendPart_35 : decode cX12_sendPart 35 = .ok (.iconst 1, 1) := by decide +kernel
theorem dX12_sendPart_36 : decode cX12_sendPart 36 = .ok (.iadd, 1) := by decide +kernel
theorem dX12_sendPart_37 : decode cX12_sendPart 37 = .ok (.putfield 318, 3) := by decide +kernel
theorem dX12_sendPart_40 : decode cX12_sendPart 40 = .ok (.return_, 1) := by decide +kernel
theorem dX12_keepsBy_0 : decode cX12_keepsBy 0 = .ok (.iload_n 2, 1) := by decide +kernel
theorem dX12_keepsBy_1 : decode cX12_keepsBy 1 = .ok (.iload_n 3, 1) := by decide +kernel
theorem dX12_keepsBy_2 : decode cX12_keepsBy 2 = .ok (.iconst 1, 1) := by decide +kernel
theorem dX12_keepsBy_3 : decode cX12_keepsBy 3 = .ok (.iadd, 1) := by decide +kernel
theorem dX12_keepsBy_4 : decode cX12_keepsBy 4 = .ok (.idiv, 1) := by decide +kernel
theorem dX12_keepsBy_5 : decode cX12_keepsBy 5 = .ok (.aload_n 0, 1) := by decide +kernel
theorem dX12_keepsBy_6 : decode cX12_keepsBy 6 = .ok (.getfield 274, 3) := by decide +kernel
theorem dX12_keepsBy_9 : decode cX12_keepsBy 9 = .ok (.iadd, 1) := by decide +kernel
theorem dX12_keepsBy_10 : decode cX12_keepsBy 10 = .ok (.istore 4, 2) := by decide +kernel
theorem dX12_keepsBy_12 : decode cX12_keepsBy 12 = .ok (.aload_n 0, 1) := by decide +kernel
theorem dX12_keepsBy_13 : decode cX12_keepsBy 13 = .ok (.getfield 58, 3) := by decide +kernel
theorem dX12_keepsBy_16 : decode cX12_keepsBy 16 = .ok (.iconst (-1), 1) := by decide +kernel
theorem dX12_keepsBy_17 : decode cX12_keepsBy 17 = .ok (.if_icmp .eq 75, 3) := by decide +kernel
theorem dX12_keepsBy_20 : decode cX12_keepsBy 20 = .ok (.aload_n 0, 1) := by decide +kernel
theorem dX12_keepsBy_21 : decode cX12_keepsBy 21 = .ok (.getfield 34, 3) := by decide +kernel
theorem dX12_keepsBy_24 : decode cX12_keepsBy 24 = .ok (.iconst 0, 1) := by decide +kernel
theorem dX12_keepsBy_25 : decode cX12_keepsBy 25 = .ok (.iload_n 2, 1) := by decide +kernel
theorem dX12_keepsBy_26 : decode cX12_keepsBy 26 = .ok (.iastore, 1) := by decide +kernel
theorem dX12_keepsBy_27 : decode cX12_keepsBy 27 = .ok (.aload_n 0, 1) := by decide +kernel
theorem dX12_keepsBy_28 : decode cX12_keepsBy 28 = .ok (.getfield 34, 3) := by decide +kernel
theorem dX12_keepsBy_31 : decode cX12_keepsBy 31 = .ok (.iconst 1, 1) := by decide +kernel
theorem dX12_keepsBy_32 : decode cX12_keepsBy 32 = .ok (.aload_n 0, 1) := by decide +kernel
theorem dX12_keepsBy_33 : decode cX12_keepsBy 33 = .ok (.iload_n 1, 1) := by decide +kernel
theorem dX12_keepsBy_34 : decode cX12_keepsBy 34 = .ok (.iconst 1, 1) := by decide +kernel
theorem dX12_keepsBy_35 : decode cX12_keepsBy 35 = .ok (.invokevirtual 277, 3) := by decide +kernel
theorem dX12_keepsBy_38 : decode cX12_keepsBy 38 = .ok (.iastore, 1) := by decide +kernel
theorem dX12_keepsBy_39 : decode cX12_keepsBy 39 = .ok (.aload_n 0, 1) := by decide +kernel
theorem dX12_keepsBy_40 : decode cX12_keepsBy 40 = .ok (.getfield 34, 3) := by decide +kernel
theorem dX12_keepsBy_43 : decode cX12_keepsBy 43 = .ok (.iconst 2, 1) := by decide +kernel
theorem dX12_keepsBy_44 : decode cX12_keepsBy 44 = .ok (.aload_n 0, 1) := by decide +kernel
theorem dX12_keepsBy_45 : decode cX12_keepsBy 45 = .ok (.getfield 52, 3) := by decide +kernel
theorem dX12_keepsBy_48 : decode cX12_keepsBy 48 = .ok (.iconst 0, 1) := by decide +kernel
theorem dX12_keepsBy_49 : decode cX12_keepsBy 49 = .ok (.iload_n 1, 1) := by decide +kernel
theorem dX12_keepsBy_50 : decode cX12_keepsBy 50 = .ok (.iadd, 1) := by decide +kernel
theorem dX12_keepsBy_51 : decode cX12_keepsBy 51 = .ok (.iaload, 1) := by decide +kernel
theorem dX12_keepsBy_52 : decode cX12_keepsBy 52 = .ok (.iastore, 1) := by decide +kernel
theorem dX12_keepsBy_53 : decode cX12_keepsBy 53 = .ok (.aload_n 0, 1) := by decide +kernel
theorem dX12_keepsBy_54 : decode cX12_keepsBy 54 = .ok (.getfield 34, 3) := by decide +kernel
theorem dX12_keepsBy_57 : decode cX12_keepsBy 57 = .ok (.iconst 3, 1) := by decide +kernel
theorem dX12_keepsBy_58 : decode cX12_keepsBy 58 = .ok (.aload_n 0, 1) := by decide +kernel
theorem dX12_keepsBy_59 : decode cX12_keepsBy 59 = .ok (.iload_n 1, 1) := by decide +kernel
theorem dX12_keepsBy_60 : decode cX12_keepsBy 60 = .ok (.iconst 3, 1) := by decide +kernel
theorem dX12_keepsBy_61 : decode cX12_keepsBy 61 = .ok (.invokevirtual 277, 3) := by decide +kernel
theorem dX12_keepsBy_64 : decode cX12_keepsBy 64 = .ok (.iastore, 1) := by decide +kernel
theorem dX12_keepsBy_65 : decode cX12_keepsBy 65 = .ok (.aload_n 0, 1) := by decide +kernel
theorem dX12_keepsBy_66 : decode cX12_keepsBy 66 = .ok (.getfield 34, 3) := by decide +kernel
theorem dX12_keepsBy_69 : decode cX12_keepsBy 69 = .ok (.iconst 4, 1) := by decide +kernel
theorem dX12_keepsBy_70 : decode cX12_keepsBy 70 = .ok (.iload_n 3, 1) := by decide +kernel
theorem dX12_keepsBy_71 : decode cX12_keepsBy 71 = .ok (.iastore, 1) := by decide +kernel
theorem dX12_keepsBy_72 : decode cX12_keepsBy 72 = .ok (.aload_n 0, 1) := by decide +kernel
theorem dX12_keepsBy_73 : decode cX12_keepsBy 73 = .ok (.getfield 34, 3) := by decide +kernel
theorem dX12_keepsBy_76 : decode cX12_keepsBy 76 = .ok (.iconst 5, 1) := by decide +kernel
theorem dX12_keepsBy_77 : decode cX12_keepsBy 77 = .ok (.aload_n 0, 1) := by decide +kernel
theorem dX12_keepsBy_78 : decode cX12_keepsBy 78 = .ok (.getfield 274, 3) := by decide +kernel
theorem dX12_keepsBy_81 : decode cX12_keepsBy 81 = .ok (.iastore, 1) := by decide +kernel
theorem dX12_keepsBy_82 : decode cX12_keepsBy 82 = .ok (.aload_n 0, 1) := by decide +kernel
theorem dX12_keepsBy_83 : decode cX12_keepsBy 83 = .ok (.aload_n 0, 1) := by decide +kernel
theorem dX12_keepsBy_84 : decode cX12_keepsBy 84 = .ok (.getfield 58, 3) := by decide +kernel
theorem dX12_keepsBy_87 : decode cX12_keepsBy 87 = .ok (.invokevirtual 321, 3) := by decide +kernel
theorem dX12_keepsBy_90 : decode cX12_keepsBy 90 = .ok (.istore 4, 2) := by decide +kernel
theorem dX12_keepsBy_92 : decode cX12_keepsBy 92 = .ok (.iconst 0, 1) := by decide +kernel
theorem dX12_keepsBy_93 : decode cX12_keepsBy 93 = .ok (.iload_n 2, 1) := by decide +kernel
theorem dX12_keepsBy_94 : decode cX12_keepsBy 94 = .ok (.iload 4, 2) := by decide +kernel
theorem dX12_keepsBy_96 : decode cX12_keepsBy 96 = .ok (.invokestatic 253, 3) := by decide +kernel
theorem dX12_keepsBy_99 : decode cX12_keepsBy 99 = .ok (.invokestatic 255, 3) := by decide +kernel
theorem dX12_keepsBy_102 : decode cX12_keepsBy 102 = .ok (.ireturn, 1) := by decide +kernel
theorem dX12_goOver_0 : decode cX12_goOver 0 = .ok (.iload_n 3, 1) := by decide +kernel
theorem dX12_goOver_1 : decode cX12_goOver 1 = .ok (.aload_n 0, 1) := by decide +kernel
theorem dX12_goOver_2 : decode cX12_goOver 2 = .ok (.iload_n 1, 1) := by decide +kernel
theorem dX12_goOver_3 : decode cX12_goOver 3 = .ok (.iconst 2, 1) := by decide +kernel
theorem dX12_goOver_4 : decode cX12_goOver 4 = .ok (.invokevirtual 306, 3) := by decide +kernel
theorem dX12_goOver_7 : decode cX12_goOver 7 = .ok (.isub, 1) := by decide +kernel
theorem dX12_goOver_8 : decode cX12_goOver 8 = .ok (.istore 4, 2) := by decide +kernel
theorem dX12_goOver_10 : decode cX12_goOver 10 = .ok (.aload_n 0, 1) := by decide +kernel
theorem dX12_goOver_11 : decode cX12_goOver 11 = .ok (.dup, 1) := by decide +kernel
theorem dX12_goOver_12 : decode cX12_goOver 12 = .ok (.getfield 324, 3) := by decide +kernel
theorem dX12_goOver_15 : decode cX12_goOver 15 = .ok (.iload_n 3, 1) := by decide +kernel
theorem dX12_goOver_16 : decode cX12_goOver 16 = .ok (.aload_n 0, 1) := by decide +kernel
theorem dX12_goOver_17 : decode cX12_goOver 17 = .ok (.iload_n 1, 1) := by decide +kernel
theorem dX12_goOver_18 : decode cX12_goOver 18 = .ok (.iconst 2, 1) := by decide +kernel
theorem dX12_goOver_19 : decode cX12_goOver 19 = .ok (.invokevirtual 306, 3) := by decide +kernel
theorem dX12_goOver_22 : decode cX12_goOver 22 = .ok (.invokestatic 253, 3) := by decide +kernel
theorem dX12_goOver_25 : decode cX12_goOver 25 = .ok (.iadd, 1) := by decide +kernel
theorem dX12_goOver_26 : decode cX12_goOver 26 = .ok (.putfield 324, 3) := by decide +kernel
theorem dX12_goOver_29 : decode cX12_goOver 29 = .ok (.iload 4, 2) := by decide +kernel
theorem dX12_goOver_31 : decode cX12_goOver 31 = .ok (.ifCond .le 25, 3) := by decide +kernel
theorem dX12_goOver_34 : decode cX12_goOver 34 = .ok (.aload_n 0, 1) := by decide +kernel
theorem dX12_goOver_35 : decode cX12_goOver 35 = .ok (.aload_n 0, 1) := by decide +kernel
theorem dX12_goOver_36 : decode cX12_goOver 36 = .ok (.iload_n 1, 1) := by decide +kernel
theorem dX12_goOver_37 : decode cX12_goOver 37 = .ok (.iconst 0, 1) := by decide +kernel
theorem dX12_goOver_38 : decode cX12_goOver 38 = .ok (.invokevirtual 306, 3) := by decide +kernel
theorem dX12_goOver_41 : decode cX12_goOver 41 = .ok (.aload_n 0, 1) := by decide +kernel
theorem dX12_goOver_42 : decode cX12_goOver 42 = .ok (.iload_n 1, 1) := by decide +kernel
theorem dX12_goOver_43 : decode cX12_goOver 43 = .ok (.iconst 1, 1) := by decide +kernel
theorem dX12_goOver_44 : decode cX12_goOver 44 = .ok (.invokevirtual 306, 3) := by decide +kernel
theorem dX12_goOver_47 : decode cX12_goOver 47 = .ok (.iadd, 1) := by decide +kernel
theorem dX12_goOver_48 : decode cX12_goOver 48 = .ok (.iload_n 2, 1) := by decide +kernel
theorem dX12_goOver_49 : decode cX12_goOver 49 = .ok (.isub, 1) := by decide +kernel
theorem dX12_goOver_50 : decode cX12_goOver 50 = .ok (.iload 4, 2) := by decide +kernel
theorem dX12_goOver_52 : decode cX12_goOver 52 = .ok (.iload_n 1, 1) := by decide +kernel
theorem dX12_goOver_53 : decode cX12_goOver 53 = .ok (.invokevirtual 327, 3) := by decide +kernel
theorem dX12_goOver_56 : decode cX12_goOver 56 = .ok (.return_, 1) := by decide +kernel
theorem dX12_layStroke_0 : decode cX12_layStroke 0 = .ok (.iconst 0, 1) := by decide +kernel
theorem dX12_layStroke_1 : decode cX12_layStroke 1 = .ok (.istore_n 3, 1) := by decide +kernel
theorem dX12_layStroke_2 : decode cX12_layStroke 2 = .ok (.iload_n 3, 1) := by decide +kernel
theorem dX12_layStroke_3 : decode cX12_layStroke 3 = .ok (.bipush 8, 2) := by decide +kernel
theorem dX12_layStroke_5 : decode cX12_layStroke 5 = .ok (.if_icmp .ge 16, 3) := by decide +kernel
theorem dX12_layStroke_8 : decode cX12_layStroke 8 = .ok (.aload_n 0, 1) := by decide +kernel
theorem dX12_layStroke_9 : decode cX12_layStroke 9 = .ok (.getfield 74, 3) := by decide +kernel
theorem dX12_layStroke_12 : decode cX12_layStroke 12 = .ok (.iload_n 3, 1) := by decide +kernel
theorem dX12_layStroke_13 : decode cX12_layStroke 13 = .ok (.iconst 0, 1) := by decide +kernel
theorem dX12_layStroke_14 : decode cX12_layStroke 14 = .ok (.iastore, 1) := by decide +kernel
theorem dX12_layStroke_15 : decode cX12_layStroke 15 = .ok (.iinc 3 1, 3) := by decide +kernel
theorem dX12_layStroke_18 : decode cX12_layStroke 18 = .ok (.goto (-16), 3) := by decide +kernel
theorem dX12_layStroke_21 : decode cX12_layStroke 21 = .ok (.aload_n 0, 1) := by decide +kernel
theorem dX12_layStroke_22 : decode cX12_layStroke 22 = .ok (.iconst 0, 1) := by decide +kernel
theorem dX12_layStroke_23 : decode cX12_layStroke 23 = .ok (.putfield 318, 3) := by decide +kernel
theorem dX12_layStroke_26 : decode cX12_layStroke 26 = .ok (.aload_n 0, 1) := by decide +kernel
theorem dX12_layStroke_27 : decode cX12_layStroke 27 = .ok (.iconst 0, 1) := by decide +kernel
theorem dX12_layStroke_28 : decode cX12_layStroke 28 = .ok (.putfield 324, 3) := by decide +kernel
theorem dX12_layStroke_31 : decode cX12_layStroke 31 = .ok (.aload_n 0, 1) := by decide +kernel
theorem dX12_layStroke_32 : decode cX12_layStroke 32 = .ok (.iload_n 1, 1) := by decide +kernel
theorem dX12_layStroke_33 : decode cX12_layStroke 33 = .ok (.iload_n 2, 1) := by decide +kernel
theorem dX12_layStroke_34 : decode cX12_layStroke 34 = .ok (.iconst (-1), 1) := by decide +kernel
theorem dX12_layStroke_35 : decode cX12_layStroke 35 = .ok (.invokevirtual 327, 3) := by decide +kernel
theorem dX12_layStroke_38 : decode cX12_layStroke 38 = .ok (.iconst 0, 1) := by decide +kernel
theorem dX12_layStroke_39 : decode cX12_layStroke 39 = .ok (.istore_n 3, 1) := by decide +kernel
theorem dX12_layStroke_40 : decode cX12_layStroke 40 = .ok (.iconst 0, 1) := by decide +kernel
theorem dX12_layStroke_41 : decode cX12_layStroke 41 = .ok (.istore 4, 2) := by decide +kernel
theorem dX12_layStroke_43 : decode cX12_layStroke 43 = .ok (.iload 4, 2) := by decide +kernel
theorem dX12_layStroke_45 : decode cX12_layStroke 45 = .ok (.aload_n 0, 1) := by decide +kernel
theorem dX12_layStroke_46 : decode cX12_layStroke 46 = .ok (.getfield 318, 3) := by decide +kernel
theorem dX12_layStroke_49 : decode cX12_layStroke 49 = .ok (.if_icmp .ge 188, 3) := by decide +kernel
theorem dX12_layStroke_52 : decode cX12_layStroke 52 = .ok (.aload_n 0, 1) := by decide +kernel
theorem dX12_layStroke_53 : decode cX12_layStroke 53 = .ok (.getfield 65, 3) := by decide +kernel
theorem dX12_layStroke_56 : decode cX12_layStroke 56 = .ok (.iload 4, 2) := by decide +kernel
theorem dX12_layStroke_58 : decode cX12_layStroke 58 = .ok (.iaload, 1) := by decide +kernel
theorem dX12_layStroke_59 : decode cX12_layStroke 59 = .ok (.istore 5, 2) := by decide +kernel
theorem dX12_layStroke_61 : decode cX12_layStroke 61 = .ok (.aload_n 0, 1) := by decide +kernel
theorem dX12_layStroke_62 : decode cX12_layStroke 62 = .ok (.getfield 68, 3) := by decide +kernel
theorem dX12_layStroke_65 : decode cX12_layStroke 65 = .ok (.iload 4, 2) := by decide +kernel
theorem dX12_layStroke_67 : decode cX12_layStroke 67 = .ok (.iaload, 1) := by decide +kernel
theorem dX12_layStroke_68 : decode cX12_layStroke 68 = .ok (.istore 6, 2) := by decide +kernel
theorem dX12_layStroke_70 : decode cX12_layStroke 70 = .ok (.iload_n 3, 1) := by decide +kernel
theorem dX12_layStroke_71 : decode cX12_layStroke 71 = .ok (.iload 5, 2) := by decide +kernel
theorem dX12_layStroke_73 : decode cX12_layStroke 73 = .ok (.invokestatic 234, 3) := by decide +kernel
theorem dX12_layStroke_76 : decode cX12_layStroke 76 = .ok (.ifCond .eq 7, 3) := by decide +kernel
theorem dX12_layStroke_79 : decode cX12_layStroke 79 = .ok (.iconst 0, 1) := by decide +kernel
theorem dX12_layStroke_80 : decode cX12_layStroke 80 = .ok (.goto 16, 3) := by decide +kernel
theorem dX12_layStroke_83 : decode cX12_layStroke 83 = .ok (.aload_n 0, 1) := by decide +kernel
theorem dX12_layStroke_84 : decode cX12_layStroke 84 = .ok (.iload 5, 2) := by decide +kernel
theorem dX12_layStroke_86 : decode cX12_layStroke 86 = .ok (.aload_n 0, 1) := by decide +kernel
theorem dX12_layStroke_87 : decode cX12_layStroke 87 = .ok (.getfield 71, 3) := by decide +kernel
theorem dX12_layStroke_90 : decode cX12_layStroke 90 = .ok (.iload 4, 2) := by decide +kernel
theorem dX12_layStroke_92 : decode cX12_layStroke 92 = .ok (.iaload, 1) := by decide +kernel
theorem dX12_layStroke_93 : decode cX12_layStroke 93 = .ok (.invokevirtual 330, 3) := by decide +kernel
theorem dX12_layStroke_96 : decode cX12_layStroke 96 = .ok (.istore 7, 2) := by decide +kernel
theorem dX12_layStroke_98 : decode cX12_layStroke 98 = .ok (.iload_n 3, 1) := by decide +kernel
theorem dX12_layStroke_99 : decode cX12_layStroke 99 = .ok (.iconst 1, 1) := by decide +kernel
theorem dX12_layStroke_100 : decode cX12_layStroke 100 = .ok (.iload 5, 2) := by decide +kernel
theorem dX12_layStroke_102 : decode cX12_layStroke 102 = .ok (.ishl, 1) := by decide +kernel
theorem dX12_layStroke_103 : decode cX12_layStroke 103 = .ok (.ior, 1) := by decide +kernel
theorem dX12_layStroke_104 : decode cX12_layStroke 104 = .ok (.istore_n 3, 1) := by decide +kernel
theorem dX12_layStroke_105 : decode cX12_layStroke 105 = .ok (.iload 7, 2) := by decide +kernel
theorem dX12_layStroke_107 : decode cX12_layStroke 107 = .ok (.ifCond .ne 7, 3) := by decide +kernel
theorem dX12_layStroke_110 : decode cX12_layStroke 110 = .ok (.iconst 0, 1) := by decide +kernel
theorem dX12_layStroke_111 : decode cX12_layStroke 111 = .ok (.goto 16, 3) := by decide +kernel
theorem dX12_layStroke_114 : decode cX12_layStroke 114 = .ok (.iload 6, 2) := by decide +kernel
theorem dX12_layStroke_116 : decode cX12_layStroke 116 = .ok (.aload_n 0, 1) := by decide +kernel
theorem dX12_layStroke_117 : decode cX12_layStroke 117 = .ok (.iload 5, 2) := by decide +kernel
theorem dX12_layStroke_119 : decode cX12_layStroke 119 = .ok (.iload 6, 2) := by decide +kernel
theorem dX12_layStroke_121 : decode cX12_layStroke 121 = .ok (.iload 7, 2) := by decide +kernel
theorem dX12_layStroke_123 : decode cX12_layStroke 123 = .ok (.invokevirtual 333, 3) := by decide +kernel
theorem dX12_layStroke_126 : decode cX12_layStroke 126 = .ok (.isub, 1) := by decide +kernel
theorem dX12_layStroke_127 : decode cX12_layStroke 127 = .ok (.istore 8, 2) := by decide +kernel
theorem dX12_layStroke_129 : decode cX12_layStroke 129 = .ok (.iload 7, 2) := by decide +kernel
theorem dX12_layStroke_131 : decode cX12_layStroke 131 = .ok (.ifCond .ne 7, 3) := by decide +kernel
theorem dX12_layStroke_134 : decode cX12_layStroke 134 = .ok (.iconst 0, 1) := by decide +kernel
theorem dX12_layStroke_135 : decode cX12_layStroke 135 = .ok (.goto 8, 3) := by decide +kernel
theorem dX12_layStroke_138 : decode cX12_layStroke 138 = .ok (.iload 8, 2) := by decide +kernel
theorem dX12_layStroke_140 : decode cX12_layStroke 140 = .ok (.iload 7, 2) := by decide +kernel
theorem dX12_layStroke_142 : decode cX12_layStroke 142 = .ok (.idiv, 1) := by decide +kernel
theorem dX12_layStroke_143 : decode cX12_layStroke 143 = .ok (.istore 9, 2) := by decide +kernel
theorem dX12_layStroke_145 : decode cX12_layStroke 145 = .ok (.aload_n 0, 1) := by decide +kernel
theorem dX12_layStroke_146 : decode cX12_layStroke 146 = .ok (.getfield 74, 3) := by decide +kernel
theorem dX12_layStroke_149 : decode cX12_layStroke 149 = .ok (.iload 5, 2) := by decide +kernel
theorem dX12_layStroke_151 : decode cX12_layStroke 151 = .ok (.dup2, 1) := by decide +kernel
theorem dX12_layStroke_152 : decode cX12_layStroke 152 = .ok (.iaload, 1) := by decide +kernel
theorem dX12_layStroke_153 : decode cX12_layStroke 153 = .ok (.iload 6, 2) := by decide +kernel
theorem dX12_layStroke_155 : decode cX12_layStroke 155 = .ok (.iload 9, 2) := by decide +kernel
theorem dX12_layStroke_157 : decode cX12_layStroke 157 = .ok (.iload 7, 2) := by decide +kernel
theorem dX12_layStroke_159 : decode cX12_layStroke 159 = .ok (.imul, 1) := by decide +kernel
theorem dX12_layStroke_160 : decode cX12_layStroke 160 = .ok (.isub, 1) := by decide +kernel
theorem dX12_layStroke_161 : decode cX12_layStroke 161 = .ok (.iadd, 1) := by decide +kernel
theorem dX12_layStroke_162 : decode cX12_layStroke 162 = .ok (.iastore, 1) := by decide +kernel
theorem dX12_layStroke_163 : decode cX12_layStroke 163 = .ok (.iconst 0, 1) := by decide +kernel
theorem dX12_layStroke_164 : decode cX12_layStroke 164 = .ok (.istore 10, 2) := by decide +kernel
theorem dX12_layStroke_166 : decode cX12_layStroke 166 = .ok (.iload 10, 2) := by decide +kernel
theorem dX12_layStroke_168 : decode cX12_layStroke 168 = .ok (.aload_n 0, 1) := by decide +kernel
theorem dX12_layStroke_169 : decode cX12_layStroke 169 = .ok (.getfield 52, 3) := by decide +kernel
theorem dX12_layStroke_172 : decode cX12_layStroke 172 = .ok (.bipush 84, 2) := by decide +kernel
theorem dX12_layStroke_174 : decode cX12_layStroke 174 = .ok (.iaload, 1) := by decide +kernel
theorem dX12_layStroke_175 : decode cX12_layStroke 175 = .ok (.if_icmp .ge 56, 3) := by decide +kernel
theorem dX12_layStroke_178 : decode cX12_layStroke 178 = .ok (.iload 7, 2) := by decide +kernel
theorem dX12_layStroke_180 : decode cX12_layStroke 180 = .ok (.ifCond .le 51, 3) := by decide +kernel
theorem dX12_layStroke_183 : decode cX12_layStroke 183 = .ok (.iload 10, 2) := by decide +kernel
theorem dX12_layStroke_185 : decode cX12_layStroke 185 = .ok (.aload_n 0, 1) := by decide +kernel
theorem dX12_layStroke_186 : decode cX12_layStroke 186 = .ok (.getfield 71, 3) := by decide +kernel
theorem dX12_layStroke_189 : decode cX12_layStroke 189 = .ok (.iload 4, 2) := by decide +kernel
theorem dX12_layStroke_191 : decode cX12_layStroke 191 = .ok (.iaload, 1) := by decide +kernel
theorem dX12_layStroke_192 : decode cX12_layStroke 192 = .ok (.if_icmp .eq 33, 3) := by decide +kernel
theorem dX12_layStroke_195 : decode cX12_layStroke 195 = .ok (.aload_n 0, 1) := by decide +kernel
theorem dX12_layStroke_196 : decode cX12_layStroke 196 = .ok (.iload 10, 2) := by decide +kernel
theorem dX12_layStroke_198 : decode cX12_layStroke 198 = .ok (.invokevirtual 312, 3) := by decide +kernel
theorem dX12_layStroke_201 : decode cX12_layStroke 201 = .ok (.ifCond .eq 24, 3) := by decide +kernel
theorem dX12_layStroke_204 : decode cX12_layStroke 204 = .ok (.aload_n 0, 1) := by decide +kernel
theorem dX12_layStroke_205 : decode cX12_layStroke 205 = .ok (.iload 10, 2) := by decide +kernel
theorem dX12_layStroke_207 : decode cX12_layStroke 207 = .ok (.iload 5, 2) := by decide +kernel
theorem dX12_layStroke_209 : decode cX12_layStroke 209 = .ok (.invokevirtual 315, 3) := by decide +kernel
theorem dX12_layStroke_212 : decode cX12_layStroke 212 = .ok (.ifCond .eq 13, 3) := by decide +kernel
theorem dX12_layStroke_215 : decode cX12_layStroke 215 = .ok (.aload_n 0, 1) := by decide +kernel
theorem dX12_layStroke_216 : decode cX12_layStroke 216 = .ok (.iload 10, 2) := by decide +kernel
theorem dX12_layStroke_218 : decode cX12_layStroke 218 = .ok (.iload 5, 2) := by decide +kernel
theorem dX12_layStroke_220 : decode cX12_layStroke 220 = .ok (.iload 9, 2) := by decide +kernel
theorem dX12_layStroke_222 : decode cX12_layStroke 222 = .ok (.invokevirtual 336, 3) := by decide +kernel
theorem dX12_layStroke_225 : decode cX12_layStroke 225 = .ok (.iinc 10 1, 3) := by decide +kernel
theorem dX12_layStroke_228 : decode cX12_layStroke 228 = .ok (.goto (-62), 3) := by decide +kernel
theorem dX12_layStroke_231 : decode cX12_layStroke 231 = .ok (.iinc 4 1, 3) := by decide +kernel
theorem dX12_layStroke_234 : decode cX12_layStroke 234 = .ok (.goto (-191), 3) := by decide +kernel
theorem dX12_layStroke_237 : decode cX12_layStroke 237 = .ok (.return_, 1) := by decide +kernel
theorem dX12_burningBy_0 : decode cX12_burningBy 0 = .ok (.aload_n 0, 1) := by decide +kernel
theorem dX12_burningBy_1 : decode cX12_burningBy 1 = .ok (.iload_n 1, 1) := by decide +kernel
theorem dX12_burningBy_2 : decode cX12_burningBy 2 = .ok (.iload_n 2, 1) := by decide +kernel
theorem dX12_burningBy_3 : decode cX12_burningBy 3 = .ok (.invokevirtual 339, 3) := by decide +kernel
theorem dX12_burningBy_6 : decode cX12_burningBy 6 = .ok (.iconst 0, 1) := by decide +kernel
theorem dX12_burningBy_7 : decode cX12_burningBy 7 = .ok (.istore_n 3, 1) := by decide +kernel
theorem dX12_burningBy_8 : decode cX12_burningBy 8 = .ok (.iconst 0, 1) := by decide +kernel
theorem dX12_burningBy_9 : decode cX12_burningBy 9 = .ok (.istore 4, 2) := by decide +kernel
theorem dX12_burningBy_11 : decode cX12_burningBy 11 = .ok (.iload 4, 2) := by decide +kernel
theorem dX12_burningBy_13 : decode cX12_burningBy 13 = .ok (.aload_n 0, 1) := by decide +kernel
theorem dX12_burningBy_14 : decode cX12_burningBy 14 = .ok (.getfield 271, 3) := by decide +kernel
theorem dX12_burningBy_17 : decode cX12_burningBy 17 = .ok (.if_icmp .ge 39, 3) := by decide +kernel
theorem dX12_burningBy_20 : decode cX12_burningBy 20 = .ok (.iload_n 3, 1) := by decide +kernel
theorem dX12_burningBy_21 : decode cX12_burningBy 21 = .ok (.aload_n 0, 1) := by decide +kernel
theorem dX12_burningBy_22 : decode cX12_burningBy 22 = .ok (.getfield 74, 3) := by decide +kernel
theorem dX12_burningBy_25 : decode cX12_burningBy 25 = .ok (.iload 4, 2) := by decide +kernel
theorem dX12_burningBy_27 : decode cX12_burningBy 27 = .ok (.iaload, 1) := by decide +kernel
theorem dX12_burningBy_28 : decode cX12_burningBy 28 = .ok (.aload_n 0, 1) := by decide +kernel
theorem dX12_burningBy_29 : decode cX12_burningBy 29 = .ok (.getfield 52, 3) := by decide +kernel
theorem dX12_burningBy_32 : decode cX12_burningBy 32 = .ok (.iconst 0, 1) := by decide +kernel
theorem dX12_burningBy_33 : decode cX12_burningBy 33 = .ok (.iload 4, 2) := by decide +kernel
theorem dX12_burningBy_35 : decode cX12_burningBy 35 = .ok (.iadd, 1) := by decide +kernel
theorem dX12_burningBy_36 : decode cX12_burningBy 36 = .ok (.iaload, 1) := by decide +kernel
theorem dX12_burningBy_37 : decode cX12_burningBy 37 = .ok (.if_icmp .le 10, 3) := by decide +kernel
theorem dX12_burningBy_40 : decode cX12_burningBy 40 = .ok (.iconst 1, 1) := by decide +kernel
theorem dX12_burningBy_41 : decode cX12_burningBy 41 = .ok (.iload 4, 2) := by decide +kernel
theorem dX12_burningBy_43 : decode cX12_burningBy 43 = .ok (.ishl, 1) := by decide +kernel
theorem dX12_burningBy_44 : decode cX12_burningBy 44 = .ok (.goto 4, 3) := by decide +kernel
theorem dX12_burningBy_47 : decode cX12_burningBy 47 = .ok (.iconst 0, 1) := by decide +kernel
theorem dX12_burningBy_48 : decode cX12_burningBy 48 = .ok (.ior, 1) := by decide +kernel
theorem dX12_burningBy_49 : decode cX12_burningBy 49 = .ok (.istore_n 3, 1) := by decide +kernel
theorem dX12_burningBy_50 : decode cX12_burningBy 50 = .ok (.iinc 4 1, 3) := by decide +kernel
theorem dX12_burningBy_53 : decode cX12_burningBy 53 = .ok (.goto (-42), 3) := by decide +kernel
theorem dX12_burningBy_56 : decode cX12_burningBy 56 = .ok (.iload_n 3, 1) := by decide +kernel
theorem dX12_burningBy_57 : decode cX12_burningBy 57 = .ok (.ireturn, 1) := by decide +kernel
theorem dX12_keepsOf_0 : decode cX12_keepsOf 0 = .ok (.aload_n 0, 1) := by decide +kernel
theorem dX12_keepsOf_1 : decode cX12_keepsOf 1 = .ok (.iload_n 1, 1) := by decide +kernel
theorem dX12_keepsOf_2 : decode cX12_keepsOf 2 = .ok (.iload_n 2, 1) := by decide +kernel
theorem dX12_keepsOf_3 : decode cX12_keepsOf 3 = .ok (.invokevirtual 339, 3) := by decide +kernel
theorem dX12_keepsOf_6 : decode cX12_keepsOf 6 = .ok (.aload_n 0, 1) := by decide +kernel
theorem dX12_keepsOf_7 : decode cX12_keepsOf 7 = .ok (.getfield 74, 3) := by decide +kernel
theorem dX12_keepsOf_10 : decode cX12_keepsOf 10 = .ok (.iload_n 3, 1) := by decide +kernel
theorem dX12_keepsOf_11 : decode cX12_keepsOf 11 = .ok (.iaload, 1) := by decide +kernel
theorem dX12_keepsOf_12 : decode cX12_keepsOf 12 = .ok (.ireturn, 1) := by decide +kernel
theorem dX12_isForce_0 : decode cX12_isForce 0 = .ok (.iload_n 0, 1) := by decide +kernel
theorem dX12_isForce_1 : decode cX12_isForce 1 = .ok (.iconst 1, 1) := by decide +kernel
theorem dX12_isForce_2 : decode cX12_isForce 2 = .ok (.sipush 999, 3) := by decide +kernel
theorem dX12_isForce_5 : decode cX12_isForce 5 = .ok (.invokestatic 223, 3) := by decide +kernel
theorem dX12_isForce_8 : decode cX12_isForce 8 = .ok (.ireturn, 1) := by decide +kernel
theorem dX12_house_0 : decode cX12_house 0 = .ok (.aload_n 0, 1) := by decide +kernel
theorem dX12_house_1 : decode cX12_house 1 = .ok (.aload_n 0, 1) := by decide +kernel
theorem dX12_house_2 : decode cX12_house 2 = .ok (.iload_n 1, 1) := by decide +kernel
theorem dX12_house_3 : decode cX12_house 3 = .ok (.invokevirtual 342, 3) := by decide +kernel
theorem dX12_house_6 : decode cX12_house 6 = .ok (.ifCond .eq 16, 3) := by decide +kernel
theorem dX12_house_9 : decode cX12_house 9 = .ok (.iload_n 2, 1) := by decide +kernel
theorem dX12_house_10 : decode cX12_house 10 = .ok (.iconst 0, 1) := by decide +kernel
theorem dX12_house_11 : decode cX12_house 11 = .ok (.iconst 5, 1) := by decide +kernel
theorem dX12_house_12 : decode cX12_house 12 = .ok (.invokestatic 223, 3) := by decide +kernel
theorem dX12_house_15 : decode cX12_house 15 = .ok (.ifCond .eq 7, 3) := by decide +kernel
theorem dX12_house_18 : decode cX12_house 18 = .ok (.iconst 0, 1) := by decide +kernel
theorem dX12_house_19 : decode cX12_house 19 = .ok (.goto 4, 3) := by decide +kernel
theorem dX12_house_22 : decode cX12_house 22 = .ok (.iconst 1, 1) := by decide +kernel
theorem dX12_house_23 : decode cX12_house 23 = .ok (.putfield 108, 3) := by decide +kernel
theorem dX12_house_26 : decode cX12_house 26 = .ok (.aload_n 0, 1) := by decide +kernel
theorem dX12_house_27 : decode cX12_house 27 = .ok (.getfield 108, 3) := by decide +kernel
theorem dX12_house_30 : decode cX12_house 30 = .ok (.iconst 1, 1) := by decide +kernel
theorem dX12_house_31 : decode cX12_house 31 = .ok (.if_icmp .ne 5, 3) := by decide +kernel
theorem dX12_house_34 : decode cX12_house 34 = .ok (.iconst 0, 1) := by decide +kernel
theorem dX12_house_35 : decode cX12_house 35 = .ok (.ireturn, 1) := by decide +kernel
theorem dX12_house_36 : decode cX12_house 36 = .ok (.iload_n 2, 1) := by decide +kernel
theorem dX12_house_37 : decode cX12_house 37 = .ok (.iconst 2, 1) := by decide +kernel
theorem dX12_house_38 : decode cX12_house 38 = .ok (.if_icmp .ne 14, 3) := by decide +kernel
theorem dX12_house_41 : decode cX12_house 41 = .ok (.aload_n 0, 1) := by decide +kernel
theorem dX12_house_42 : decode cX12_house 42 = .ok (.getfield 52, 3) := by decide +kernel
theorem dX12_house_45 : decode cX12_house 45 = .ok (.iconst 0, 1) := by decide +kernel
theorem dX12_house_46 : decode cX12_house 46 = .ok (.iload_n 1, 1) := by decide +kernel
theorem dX12_house_47 : decode cX12_house 47 = .ok (.iadd, 1) := by decide +kernel
theorem dX12_house_48 : decode cX12_house 48 = .ok (.iaload, 1) := by decide +kernel
theorem dX12_house_49 : decode cX12_house 49 = .ok (.goto 40, 3) := by decide +kernel
theorem dX12_house_52 : decode cX12_house 52 = .ok (.iload_n 2, 1) := by decide +kernel
theorem dX12_house_53 : decode cX12_house 53 = .ok (.iconst 4, 1) := by decide +kernel
theorem dX12_house_54 : decode cX12_house 54 = .ok (.if_icmp .ne 15, 3) := by decide +kernel
theorem dX12_house_57 : decode cX12_house 57 = .ok (.aload_n 0, 1) := by decide +kernel
theorem dX12_house_58 : decode cX12_house 58 = .ok (.getfield 52, 3) := by decide +kernel
theorem dX12_house_61 : decode cX12_house 61 = .ok (.bipush 8, 2) := by decide +kernel
theorem dX12_house_63 : decode cX12_house 63 = .ok (.iload_n 1, 1) := by decide +kernel
theorem dX12_house_64 : decode cX12_house 64 = .ok (.iadd, 1) := by decide +kernel
theorem dX12_house_65 : decode cX12_house 65 = .ok (.iaload, 1) := by decide +kernel
theorem dX12_house_66 : decode cX12_house 66 = .ok (.goto 23, 3) := by decide +kernel
theorem dX12_house_69 : decode cX12_house 69 = .ok (.iload_n 2, 1) := by decide +kernel
theorem dX12_house_70 : decode cX12_house 70 = .ok (.iconst 5, 1) := by decide +kernel
theorem dX12_house_71 : decode cX12_house 71 = .ok (.if_icmp .ne 12, 3) := by decide +kernel
theorem dX12_house_74 : decode cX12_house 74 = .ok (.aload_n 0, 1) := by decide +kernel
theorem dX12_house_75 : decode cX12_house 75 = .ok (.iload_n 1, 1) := by decide +kernel
theorem dX12_house_76 : decode cX12_house 76 = .ok (.iconst (-1), 1) := by decide +kernel
theorem dX12_house_77 : decode cX12_house 77 = .ok (.invokevirtual 330, 3) := by decide +kernel
theorem dX12_house_80 : decode cX12_house 80 = .ok (.goto 9, 3) := by decide +kernel
theorem dX12_house_83 : decode cX12_house 83 = .ok (.aload_n 0, 1) := by decide +kernel
theorem dX12_house_84 : decode cX12_house 84 = .ok (.iload_n 1, 1) := by decide +kernel
theorem dX12_house_85 : decode cX12_house 85 = .ok (.iload_n 2, 1) := by decide +kernel
theorem dX12_house_86 : decode cX12_house 86 = .ok (.invokevirtual 277, 3) := by decide +kernel
theorem dX12_house_89 : decode cX12_house 89 = .ok (.ireturn, 1) := by decide +kernel
theorem dX12_wire_0 : decode cX12_wire 0 = .ok (.aload_n 0, 1) := by decide +kernel
theorem dX12_wire_1 : decode cX12_wire 1 = .ok (.iload_n 1, 1) := by decide +kernel
theorem dX12_wire_2 : decode cX12_wire 2 = .ok (.invokevirtual 345, 3) := by decide +kernel
theorem dX12_wire_5 : decode cX12_wire 5 = .ok (.ifCond .eq 12, 3) := by decide +kernel
theorem dX12_wire_8 : decode cX12_wire 8 = .ok (.iload_n 2, 1) := by decide +kernel
theorem dX12_wire_9 : decode cX12_wire 9 = .ok (.iconst 0, 1) := by decide +kernel
theorem dX12_wire_10 : decode cX12_wire 10 = .ok (.iconst 4, 1) := by decide +kernel
theorem dX12_wire_11 : decode cX12_wire 11 = .ok (.invokestatic 223, 3) := by decide +kernel
theorem dX12_wire_14 : decode cX12_wire 14 = .ok (.ifCond .ne 7, 3) := by decide +kernel
theorem dX12_wire_17 : decode cX12_wire 17 = .ok (.iconst (-1), 1) := by decide +kernel
theorem dX12_wire_18 : decode cX12_wire 18 = .ok (.goto 30, 3) := by decide +kernel
theorem dX12_wire_21 : decode cX12_wire 21 = .ok (.iload_n 2, 1) := by decide +kernel
theorem dX12_wire_22 : decode cX12_wire 22 = .ok (.iconst 4, 1) := by decide +kernel
theorem dX12_wire_23 : decode cX12_wire 23 = .ok (.if_icmp .ne 19, 3) := by decide +kernel
theorem dX12_wire_26 : decode cX12_wire 26 = .ok (.aload_n 0, 1) := by decide +kernel
theorem dX12_wire_27 : decode cX12_wire 27 = .ok (.iload_n 1, 1) := by decide +kernel
theorem dX12_wire_28 : decode cX12_wire 28 = .ok (.invokevirtual 312, 3) := by decide +kernel
theorem dX12_wire_31 : decode cX12_wire 31 = .ok (.ifCond .eq 7, 3) := by decide +kernel
theorem dX12_wire_34 : decode cX12_wire 34 = .ok (.iconst 1, 1) := by decide +kernel
theorem dX12_wire_35 : decode cX12_wire 35 = .ok (.goto 13, 3) := by decide +kernel
theorem dX12_wire_38 : decode cX12_wire 38 = .ok (.iconst 0, 1) := by decide +kernel
theorem dX12_wire_39 : decode cX12_wire 39 = .ok (.goto 9, 3) := by decide +kernel
theorem dX12_wire_42 : decode cX12_wire 42 = .ok (.aload_n 0, 1) := by decide +kernel
theorem dX12_wire_43 : decode cX12_wire 43 = .ok (.iload_n 1, 1) := by decide +kernel
theorem dX12_wire_44 : decode cX12_wire 44 = .ok (.iload_n 2, 1) := by decide +kernel
theorem dX12_wire_45 : decode cX12_wire 45 = .ok (.invokevirtual 306, 3) := by decide +kernel
theorem dX12_wire_48 : decode cX12_wire 48 = .ok (.ireturn, 1) := by decide +kernel
theorem dX12_law_0 : decode cX12_law 0 = .ok (.iload_n 1, 1) := by decide +kernel
theorem dX12_law_1 : decode cX12_law 1 = .ok (.iconst (-1), 1) := by decide +kernel
theorem dX12_law_2 : decode cX12_law 2 = .ok (.aload_n 0, 1) := by decide +kernel
theorem dX12_law_3 : decode cX12_law 3 = .ok (.getfield 299, 3) := by decide +kernel
theorem dX12_law_6 : decode cX12_law 6 = .ok (.iconst 1, 1) := by decide +kernel
theorem dX12_law_7 : decode cX12_law 7 = .ok (.isub, 1) := by decide +kernel
theorem dX12_law_8 : decode cX12_law 8 = .ok (.invokestatic 223, 3) := by decide +kernel
theorem dX12_law_11 : decode cX12_law 11 = .ok (.ifCond .ne 5, 3) := by decide +kernel
theorem dX12_law_14 : decode cX12_law 14 = .ok (.iconst 0, 1) := by decide +kernel
theorem dX12_law_15 : decode cX12_law 15 = .ok (.ireturn, 1) := by decide +kernel
theorem dX12_law_16 : decode cX12_law 16 = .ok (.aload_n 0, 1) := by decide +kernel
theorem dX12_law_17 : decode cX12_law 17 = .ok (.iload_n 1, 1) := by decide +kernel
theorem dX12_law_18 : decode cX12_law 18 = .ok (.putfield 58, 3) := by decide +kernel
theorem dX12_law_21 : decode cX12_law 21 = .ok (.iconst 1, 1) := by decide +kernel
theorem dX12_law_22 : decode cX12_law 22 = .ok (.ireturn, 1) := by decide +kernel
theorem dX12_keep_0 : decode cX12_keep 0 = .ok (.aload_n 0, 1) := by decide +kernel
theorem dX12_keep_1 : decode cX12_keep 1 = .ok (.getfield 289, 3) := by decide +kernel
theorem dX12_keep_4 : decode cX12_keep 4 = .ok (.bipush 40, 2) := by decide +kernel
theorem dX12_keep_6 : decode cX12_keep 6 = .ok (.if_icmp .ne 46, 3) := by decide +kernel
theorem dX12_keep_9 : decode cX12_keep 9 = .ok (.sipush 268, 3) := by decide +kernel
theorem dX12_keep_12 : decode cX12_keep 12 = .ok (.istore_n 1, 1) := by decide +kernel
theorem dX12_keep_13 : decode cX12_keep 13 = .ok (.iload_n 1, 1) := by decide +kernel
theorem dX12_keep_14 : decode cX12_keep 14 = .ok (.sipush 10720, 3) := by decide +kernel
theorem dX12_keep_17 : decode cX12_keep 17 = .ok (.if_icmp .ge 25, 3) := by decide +kernel
theorem dX12_keep_20 : decode cX12_keep 20 = .ok (.aload_n 0, 1) := by decide +kernel
theorem dX12_keep_21 : decode cX12_keep 21 = .ok (.getfield 77, 3) := by decide +kernel
theorem dX12_keep_24 : decode cX12_keep 24 = .ok (.iload_n 1, 1) := by decide +kernel
theorem dX12_keep_25 : decode cX12_keep 25 = .ok (.sipush 268, 3) := by decide +kernel
theorem dX12_keep_28 : decode cX12_keep 28 = .ok (.isub, 1) := by decide +kernel
theorem dX12_keep_29 : decode cX12_keep 29 = .ok (.aload_n 0, 1) := by decide +kernel
theorem dX12_keep_30 : decode cX12_keep 30 = .ok (.getfield 77, 3) := by decide +kernel
theorem dX12_keep_33 : decode cX12_keep 33 = .ok (.iload_n 1, 1) := by decide +kernel
theorem dX12_keep_34 : decode cX12_keep 34 = .ok (.iaload, 1) := by decide +kernel
theorem dX12_keep_35 : decode cX12_keep 35 = .ok (.iastore, 1) := by decide +kernel
theorem dX12_keep_36 : decode cX12_keep 36 = .ok (.iinc 1 1, 3) := by decide +kernel
theorem dX12_keep_39 : decode cX12_keep 39 = .ok (.goto (-26), 3) := by decide +kernel
theorem dX12_keep_42 : decode cX12_keep 42 = .ok (.aload_n 0, 1) := by decide +kernel
theorem dX12_keep_43 : decode cX12_keep 43 = .ok (.dup, 1) := by decide +kernel
