theorem dX0_init_0 : decode cX0_init 0 = .ok (.aload_n 0, 1) := by decide +kernel
theorem dX0_init_1 : decode cX0_init 1 = .ok (.invokespecial 3, 3) := by decide +kernel
theorem dX0_init_4 : decode cX0_init 4 = .ok (.aload_n 0, 1) := by decide +kernel
theorem dX0_init_5 : decode cX0_init 5 = .ok (.bipush 8, 2) := by decide +kernel
theorem dX0_init_7 : decode cX0_init 7 = .ok (.newarray .int, 2) := by decide +kernel
theorem dX0_init_9 : decode cX0_init 9 = .ok (.putfield 9, 3) := by decide +kernel
theorem dX0_init_12 : decode cX0_init 12 = .ok (.aload_n 0, 1) := by decide +kernel
theorem dX0_init_13 : decode cX0_init 13 = .ok (.bipush 8, 2) := by decide +kernel
theorem dX0_init_15 : decode cX0_init 15 = .ok (.newarray .int, 2) := by decide +kernel
theorem dX0_init_17 : decode cX0_init 17 = .ok (.putfield 15, 3) := by decide +kernel
theorem dX0_init_20 : decode cX0_init 20 = .ok (.aload_n 0, 1) := by decide +kernel
theorem dX0_init_21 : decode cX0_init 21 = .ok (.bipush 8, 2) := by decide +kernel
theorem dX0_init_23 : decode cX0_init 23 = .ok (.newarray .int, 2) := by decide +kernel
theorem dX0_init_25 : decode cX0_init 25 = .ok (.putfield 18, 3) := by decide +kernel
theorem dX0_init_28 : decode cX0_init 28 = .ok (.aload_n 0, 1) := by decide +kernel
theorem dX0_init_29 : decode cX0_init 29 = .ok (.bipush 8, 2) := by decide +kernel
theorem dX0_init_31 : decode cX0_init 31 = .ok (.newarray .int, 2) := by decide +kernel
theorem dX0_init_33 : decode cX0_init 33 = .ok (.putfield 21, 3) := by decide +kernel
theorem dX0_init_36 : decode cX0_init 36 = .ok (.aload_n 0, 1) := by decide +kernel
theorem dX0_init_37 : decode cX0_init 37 = .ok (.bipush 8, 2) := by decide +kernel
theorem dX0_init_39 : decode cX0_init 39 = .ok (.newarray .int, 2) := by decide +kernel
theorem dX0_init_41 : decode cX0_init 41 = .ok (.putfield 24, 3) := by decide +kernel
theorem dX0_init_44 : decode cX0_init 44 = .ok (.aload_n 0, 1) := by decide +kernel
theorem dX0_init_45 : decode cX0_init 45 = .ok (.bipush 17, 2) := by decide +kernel
theorem dX0_init_47 : decode cX0_init 47 = .ok (.newarray .int, 2) := by decide +kernel
theorem dX0_init_49 : decode cX0_init 49 = .ok (.putfield 27, 3) := by decide +kernel
theorem dX0_init_52 : decode cX0_init 52 = .ok (.aload_n 0, 1) := by decide +kernel
theorem dX0_init_53 : decode cX0_init 53 = .ok (.bipush 17, 2) := by decide +kernel
theorem dX0_init_55 : decode cX0_init 55 = .ok (.newarray .int, 2) := by decide +kernel
theorem dX0_init_57 : decode cX0_init 57 = .ok (.putfield 30, 3) := by decide +kernel
theorem dX0_init_60 : decode cX0_init 60 = .ok (.aload_n 0, 1) := by decide +kernel
theorem dX0_init_61 : decode cX0_init 61 = .ok (.bipush 17, 2) := by decide +kernel
theorem dX0_init_63 : decode cX0_init 63 = .ok (.newarray .int, 2) := by decide +kernel
theorem dX0_init_65 : decode cX0_init 65 = .ok (.putfield 33, 3) := by decide +kernel
theorem dX0_init_68 : decode cX0_init 68 = .ok (.aload_n 0, 1) := by decide +kernel
theorem dX0_init_69 : decode cX0_init 69 = .ok (.bipush 8, 2) := by decide +kernel
theorem dX0_init_71 : decode cX0_init 71 = .ok (.newarray .int, 2) := by decide +kernel
theorem dX0_init_73 : decode cX0_init 73 = .ok (.putfield 36, 3) := by decide +kernel
theorem dX0_init_76 : decode cX0_init 76 = .ok (.return_, 1) := by decide +kernel
theorem dX0_take_0 : decode cX0_take 0 = .ok (.aload_n 0, 1) := by decide +kernel
theorem dX0_take_1 : decode cX0_take 1 = .ok (.aload_n 1, 1) := by decide +kernel
theorem dX0_take_2 : decode cX0_take 2 = .ok (.getfield 39, 3) := by decide +kernel
theorem dX0_take_5 : decode cX0_take 5 = .ok (.putfield 45, 3) := by decide +kernel
theorem dX0_take_8 : decode cX0_take 8 = .ok (.aload_n 0, 1) := by decide +kernel
theorem dX0_take_9 : decode cX0_take 9 = .ok (.aload_n 1, 1) := by decide +kernel
theorem dX0_take_10 : decode cX0_take 10 = .ok (.getfield 46, 3) := by decide +kernel
theorem dX0_take_13 : decode cX0_take 13 = .ok (.putfield 49, 3) := by decide +kernel
theorem dX0_take_16 : decode cX0_take 16 = .ok (.aload_n 0, 1) := by decide +kernel
theorem dX0_take_17 : decode cX0_take 17 = .ok (.iconst 0, 1) := by decide +kernel
theorem dX0_take_18 : decode cX0_take 18 = .ok (.putfield 50, 3) := by decide +kernel
theorem dX0_take_21 : decode cX0_take 21 = .ok (.aload_n 0, 1) := by decide +kernel
theorem dX0_take_22 : decode cX0_take 22 = .ok (.aload_n 1, 1) := by decide +kernel
theorem dX0_take_23 : decode cX0_take 23 = .ok (.getfield 53, 3) := by decide +kernel
theorem dX0_take_26 : decode cX0_take 26 = .ok (.iconst 0, 1) := by decide +kernel
theorem dX0_take_27 : decode cX0_take 27 = .ok (.iaload, 1) := by decide +kernel
theorem dX0_take_28 : decode cX0_take 28 = .ok (.putfield 56, 3) := by decide +kernel
theorem dX0_take_31 : decode cX0_take 31 = .ok (.aload_n 0, 1) := by decide +kernel
theorem dX0_take_32 : decode cX0_take 32 = .ok (.aload_n 1, 1) := by decide +kernel
theorem dX0_take_33 : decode cX0_take 33 = .ok (.getfield 53, 3) := by decide +kernel
theorem dX0_take_36 : decode cX0_take 36 = .ok (.iconst 1, 1) := by decide +kernel
theorem dX0_take_37 : decode cX0_take 37 = .ok (.iaload, 1) := by decide +kernel
theorem dX0_take_38 : decode cX0_take 38 = .ok (.putfield 59, 3) := by decide +kernel
theorem dX0_take_41 : decode cX0_take 41 = .ok (.aload_n 0, 1) := by decide +kernel
theorem dX0_take_42 : decode cX0_take 42 = .ok (.iconst 0, 1) := by decide +kernel
theorem dX0_take_43 : decode cX0_take 43 = .ok (.putfield 62, 3) := by decide +kernel
theorem dX0_take_46 : decode cX0_take 46 = .ok (.iconst 0, 1) := by decide +kernel
theorem dX0_take_47 : decode cX0_take 47 = .ok (.istore_n 2, 1) := by decide +kernel
theorem dX0_take_48 : decode cX0_take 48 = .ok (.iload_n 2, 1) := by decide +kernel
theorem dX0_take_49 : decode cX0_take 49 = .ok (.aload_n 0, 1) := by decide +kernel
theorem dX0_take_50 : decode cX0_take 50 = .ok (.getfield 45, 3) := by decide +kernel
theorem dX0_take_53 : decode cX0_take 53 = .ok (.if_icmp .ge 74, 3) := by decide +kernel
theorem dX0_take_56 : decode cX0_take 56 = .ok (.iload_n 2, 1) := by decide +kernel
theorem dX0_take_57 : decode cX0_take 57 = .ok (.iconst 4, 1) := by decide +kernel
theorem dX0_take_58 : decode cX0_take 58 = .ok (.imul, 1) := by decide +kernel
theorem dX0_take_59 : decode cX0_take 59 = .ok (.istore_n 3, 1) := by decide +kernel
theorem dX0_take_60 : decode cX0_take 60 = .ok (.aload_n 0, 1) := by decide +kernel
theorem dX0_take_61 : decode cX0_take 61 = .ok (.getfield 9, 3) := by decide +kernel
theorem dX0_take_64 : decode cX0_take 64 = .ok (.iload_n 2, 1) := by decide +kernel
theorem dX0_take_65 : decode cX0_take 65 = .ok (.aload_n 1, 1) := by decide +kernel
theorem dX0_take_66 : decode cX0_take 66 = .ok (.getfield 65, 3) := by decide +kernel
theorem dX0_take_69 : decode cX0_take 69 = .ok (.iload_n 3, 1) := by decide +kernel
theorem dX0_take_70 : decode cX0_take 70 = .ok (.iaload, 1) := by decide +kernel
theorem dX0_take_71 : decode cX0_take 71 = .ok (.iastore, 1) := by decide +kernel
theorem dX0_take_72 : decode cX0_take 72 = .ok (.aload_n 0, 1) := by decide +kernel
theorem dX0_take_73 : decode cX0_take 73 = .ok (.getfield 15, 3) := by decide +kernel
theorem dX0_take_76 : decode cX0_take 76 = .ok (.iload_n 2, 1) := by decide +kernel
theorem dX0_take_77 : decode cX0_take 77 = .ok (.aload_n 1, 1) := by decide +kernel
theorem dX0_take_78 : decode cX0_take 78 = .ok (.getfield 65, 3) := by decide +kernel
theorem dX0_take_81 : decode cX0_take 81 = .ok (.iload_n 3, 1) := by decide +kernel
theorem dX0_take_82 : decode cX0_take 82 = .ok (.iconst 1, 1) := by decide +kernel
theorem dX0_take_83 : decode cX0_take 83 = .ok (.iadd, 1) := by decide +kernel
theorem dX0_take_84 : decode cX0_take 84 = .ok (.iaload, 1) := by decide +kernel
theorem dX0_take_85 : decode cX0_take 85 = .ok (.iastore, 1) := by decide +kernel
theorem dX0_take_86 : decode cX0_take 86 = .ok (.aload_n 0, 1) := by decide +kernel
theorem dX0_take_87 : decode cX0_take 87 = .ok (.getfield 18, 3) := by decide +kernel
theorem dX0_take_90 : decode cX0_take 90 = .ok (.iload_n 2, 1) := by decide +kernel
theorem dX0_take_91 : decode cX0_take 91 = .ok (.aload_n 1, 1) := by decide +kernel
theorem dX0_take_92 : decode cX0_take 92 = .ok (.getfield 65, 3) := by decide +kernel
theorem dX0_take_95 : decode cX0_take 95 = .ok (.iload_n 3, 1) := by decide +kernel
theorem dX0_take_96 : decode cX0_take 96 = .ok (.iconst 2, 1) := by decide +kernel
theorem dX0_take_97 : decode cX0_take 97 = .ok (.iadd, 1) := by decide +kernel
theorem dX0_take_98 : decode cX0_take 98 = .ok (.iaload, 1) := by decide +kernel
theorem dX0_take_99 : decode cX0_take 99 = .ok (.iastore, 1) := by decide +kernel
theorem dX0_take_100 : decode cX0_take 100 = .ok (.aload_n 0, 1) := by decide +kernel
theorem dX0_take_101 : decode cX0_take 101 = .ok (.getfield 21, 3) := by decide +kernel
theorem dX0_take_104 : decode cX0_take 104 = .ok (.iload_n 2, 1) := by decide +kernel
theorem dX0_take_105 : decode cX0_take 105 = .ok (.aload_n 1, 1) := by decide +kernel
theorem dX0_take_106 : decode cX0_take 106 = .ok (.getfield 65, 3) := by decide +kernel
theorem dX0_take_109 : decode cX0_take 109 = .ok (.iload_n 3, 1) := by decide +kernel
theorem dX0_take_110 : decode cX0_take 110 = .ok (.iconst 3, 1) := by decide +kernel
theorem dX0_take_111 : decode cX0_take 111 = .ok (.iadd, 1) := by decide +kernel
theorem dX0_take_112 : decode cX0_take 112 = .ok (.iaload, 1) := by decide +kernel
theorem dX0_take_113 : decode cX0_take 113 = .ok (.iastore, 1) := by decide +kernel
theorem dX0_take_114 : decode cX0_take 114 = .ok (.aload_n 0, 1) := by decide +kernel
theorem dX0_take_115 : decode cX0_take 115 = .ok (.getfield 24, 3) := by decide +kernel
theorem dX0_take_118 : decode cX0_take 118 = .ok (.iload_n 2, 1) := by decide +kernel
theorem dX0_take_119 : decode cX0_take 119 = .ok (.iconst 0, 1) := by decide +kernel
theorem dX0_take_120 : decode cX0_take 120 = .ok (.iastore, 1) := by decide +kernel
theorem dX0_take_121 : decode cX0_take 121 = .ok (.iinc 2 1, 3) := by decide +kernel
theorem dX0_take_124 : decode cX0_take 124 = .ok (.goto (-76), 3) := by decide +kernel
theorem dX0_take_127 : decode cX0_take 127 = .ok (.iconst 0, 1) := by decide +kernel
theorem dX0_take_128 : decode cX0_take 128 = .ok (.istore_n 2, 1) := by decide +kernel
theorem dX0_take_129 : decode cX0_take 129 = .ok (.iload_n 2, 1) := by decide +kernel
theorem dX0_take_130 : decode cX0_take 130 = .ok (.aload_n 0, 1) := by decide +kernel
theorem dX0_take_131 : decode cX0_take 131 = .ok (.getfield 49, 3) := by decide +kernel
theorem dX0_take_134 : decode cX0_take 134 = .ok (.if_icmp .ge 53, 3) := by decide +kernel
theorem dX0_take_137 : decode cX0_take 137 = .ok (.iload_n 2, 1) := by decide +kernel
theorem dX0_take_138 : decode cX0_take 138 = .ok (.iconst 3, 1) := by decide +kernel
theorem dX0_take_139 : decode cX0_take 139 = .ok (.imul, 1) := by decide +kernel
theorem dX0_take_140 : decode cX0_take 140 = .ok (.istore_n 3, 1) := by decide +kernel
theorem dX0_take_141 : decode cX0_take 141 = .ok (.aload_n 0, 1) := by decide +kernel
theorem dX0_take_142 : decode cX0_take 142 = .ok (.getfield 27, 3) := by decide +kernel
theorem dX0_take_145 : decode cX0_take 145 = .ok (.iload_n 2, 1) := by decide +kernel
theorem dX0_take_146 : decode cX0_take 146 = .ok (.aload_n 1, 1) := by decide +kernel
theorem dX0_take_147 : decode cX0_take 147 = .ok (.getfield 68, 3) := by decide +kernel
theorem dX0_take_150 : decode cX0_take 150 = .ok (.iload_n 3, 1) := by decide +kernel
theorem dX0_take_151 : decode cX0_take 151 = .ok (.iaload, 1) := by decide +kernel
theorem dX0_take_152 : decode cX0_take 152 = .ok (.iastore, 1) := by decide +kernel
theorem dX0_take_153 : decode cX0_take 153 = .ok (.aload_n 0, 1) := by decide +kernel
theorem dX0_take_154 : decode cX0_take 154 = .ok (.getfield 30, 3) := by decide +kernel
theorem dX0_take_157 : decode cX0_take 157 = .ok (.iload_n 2, 1) := by decide +kernel
theorem dX0_take_158 : decode cX0_take 158 = .ok (.aload_n 1, 1) := by decide +kernel
theorem dX0_take_159 : decode cX0_take 159 = .ok (.getfield 68, 3) := by decide +kernel
theorem dX0_take_162 : decode cX0_take 162 = .ok (.iload_n 3, 1) := by decide +kernel
theorem dX0_take_163 : decode cX0_take 163 = .ok (.iconst 1, 1) := by decide +kernel
theorem dX0_take_164 : decode cX0_take 164 = .ok (.iadd, 1) := by decide +kernel
theorem dX0_take_165 : decode cX0_take 165 = .ok (.iaload, 1) := by decide +kernel
theorem dX0_take_166 : decode cX0_take 166 = .ok (.iastore, 1) := by decide +kernel
theorem dX0_take_167 : decode cX0_take 167 = .ok (.aload_n 0, 1) := by decide +kernel
theorem dX0_take_168 : decode cX0_take 168 = .ok (.getfield 33, 3) := by decide +kernel
theorem dX0_take_171 : decode cX0_take 171 = .ok (.iload_n 2, 1) := by decide +kernel
theorem dX0_take_172 : decode cX0_take 172 = .ok (.aload_n 1, 1) := by decide +kernel
theorem dX0_take_173 : decode cX0_take 173 = .ok (.getfield 68, 3) := by decide +kernel
theorem dX0_take_176 : decode cX0_take 176 = .ok (.iload_n 3, 1) := by decide +kernel
theorem dX0_take_177 : decode cX0_take 177 = .ok (.iconst 2, 1) := by decide +kernel
theorem dX0_take_178 : decode cX0_take 178 = .ok (.iadd, 1) := by decide +kernel
theorem dX0_take_179 : decode cX0_take 179 = .ok (.iaload, 1) := by decide +kernel
theorem dX0_take_180 : decode cX0_take 180 = .ok (.iastore, 1) := by decide +kernel
theorem dX0_take_181 : decode cX0_take 181 = .ok (.iinc 2 1, 3) := by decide +kernel
theorem dX0_take_184 : decode cX0_take 184 = .ok (.goto (-55), 3) := by decide +kernel
theorem dX0_take_187 : decode cX0_take 187 = .ok (.aload_n 0, 1) := by decide +kernel
theorem dX0_take_188 : decode cX0_take 188 = .ok (.invokevirtual 71, 3) := by decide +kernel
theorem dX0_take_191 : decode cX0_take 191 = .ok (.return_, 1) := by decide +kernel
theorem dX0_write_0 : decode cX0_write 0 = .ok (.iconst 0, 1) := by decide +kernel
theorem dX0_write_1 : decode cX0_write 1 = .ok (.istore_n 3, 1) := by decide +kernel
theorem dX0_write_2 : decode cX0_write 2 = .ok (.iload_n 3, 1) := by decide +kernel
theorem dX0_write_3 : decode cX0_write 3 = .ok (.bipush 8, 2) := by decide +kernel
theorem dX0_write_5 : decode cX0_write 5 = .ok (.if_icmp .ge 34, 3) := by decide +kernel
theorem dX0_write_8 : decode cX0_write 8 = .ok (.aload_n 1, 1) := by decide +kernel
theorem dX0_write_9 : decode cX0_write 9 = .ok (.iload_n 2, 1) := by decide +kernel
theorem dX0_write_10 : decode cX0_write 10 = .ok (.iload_n 3, 1) := by decide +kernel
theorem dX0_write_11 : decode cX0_write 11 = .ok (.iadd, 1) := by decide +kernel
theorem dX0_write_12 : decode cX0_write 12 = .ok (.aload_n 0, 1) := by decide +kernel
theorem dX0_write_13 : decode cX0_write 13 = .ok (.getfield 18, 3) := by decide +kernel
theorem dX0_write_16 : decode cX0_write 16 = .ok (.iload_n 3, 1) := by decide +kernel
theorem dX0_write_17 : decode cX0_write 17 = .ok (.iaload, 1) := by decide +kernel
theorem dX0_write_18 : decode cX0_write 18 = .ok (.iastore, 1) := by decide +kernel
theorem dX0_write_19 : decode cX0_write 19 = .ok (.aload_n 1, 1) := by decide +kernel
theorem dX0_write_20 : decode cX0_write 20 = .ok (.iload_n 2, 1) := by decide +kernel
theorem dX0_write_21 : decode cX0_write 21 = .ok (.bipush 8, 2) := by decide +kernel
theorem dX0_write_23 : decode cX0_write 23 = .ok (.iadd, 1) := by decide +kernel
theorem dX0_write_24 : decode cX0_write 24 = .ok (.iload_n 3, 1) := by decide +kernel
theorem dX0_write_25 : decode cX0_write 25 = .ok (.iadd, 1) := by decide +kernel
theorem dX0_write_26 : decode cX0_write 26 = .ok (.aload_n 0, 1) := by decide +kernel
theorem dX0_write_27 : decode cX0_write 27 = .ok (.getfield 24, 3) := by decide +kernel
theorem dX0_write_30 : decode cX0_write 30 = .ok (.iload_n 3, 1) := by decide +kernel
theorem dX0_write_31 : decode cX0_write 31 = .ok (.iaload, 1) := by decide +kernel
theorem dX0_write_32 : decode cX0_write 32 = .ok (.iastore, 1) := by decide +kernel
theorem dX0_write_33 : decode cX0_write 33 = .ok (.iinc 3 1, 3) := by decide +kernel
theorem dX0_write_36 : decode cX0_write 36 = .ok (.goto (-34), 3) := by decide +kernel
theorem dX0_write_39 : decode cX0_write 39 = .ok (.iload_n 2, 1) := by decide +kernel
theorem dX0_write_40 : decode cX0_write 40 = .ok (.bipush 16, 2) := by decide +kernel
theorem dX0_write_42 : decode cX0_write 42 = .ok (.iadd, 1) := by decide +kernel
theorem dX0_write_43 : decode cX0_write 43 = .ok (.istore_n 3, 1) := by decide +kernel
theorem dX0_write_44 : decode cX0_write 44 = .ok (.iconst 0, 1) := by decide +kernel
theorem dX0_write_45 : decode cX0_write 45 = .ok (.istore 4, 2) := by decide +kernel
theorem dX0_write_47 : decode cX0_write 47 = .ok (.iload 4, 2) := by decide +kernel
theorem dX0_write_49 : decode cX0_write 49 = .ok (.bipush 16, 2) := by decide +kernel
theorem dX0_write_51 : decode cX0_write 51 = .ok (.if_icmp .ge 56, 3) := by decide +kernel
theorem dX0_write_54 : decode cX0_write 54 = .ok (.aload_n 1, 1) := by decide +kernel
theorem dX0_write_55 : decode cX0_write 55 = .ok (.iload_n 3, 1) := by decide +kernel
theorem dX0_write_56 : decode cX0_write 56 = .ok (.iload 4, 2) := by decide +kernel
theorem dX0_write_58 : decode cX0_write 58 = .ok (.iadd, 1) := by decide +kernel
theorem dX0_write_59 : decode cX0_write 59 = .ok (.aload_n 0, 1) := by decide +kernel
theorem dX0_write_60 : decode cX0_write 60 = .ok (.getfield 27, 3) := by decide +kernel
theorem dX0_write_63 : decode cX0_write 63 = .ok (.iload 4, 2) := by decide +kernel
theorem dX0_write_65 : decode cX0_write 65 = .ok (.iaload, 1) := by decide +kernel
theorem dX0_write_66 : decode cX0_write 66 = .ok (.aload_n 0, 1) := by decide +kernel
theorem dX0_write_67 : decode cX0_write 67 = .ok (.getfield 30, 3) := by decide +kernel
theorem dX0_write_70 : decode cX0_write 70 = .ok (.iload 4, 2) := by decide +kernel
theorem dX0_write_72 : decode cX0_write 72 = .ok (.iaload, 1) := by decide +kernel
theorem dX0_write_73 : decode cX0_write 73 = .ok (.iconst 3, 1) := by decide +kernel
theorem dX0_write_74 : decode cX0_write 74 = .ok (.ishl, 1) := by decide +kernel
theorem dX0_write_75 : decode cX0_write 75 = .ok (.ior, 1) := by decide +kernel
theorem dX0_write_76 : decode cX0_write 76 = .ok (.aload_n 0, 1) := by decide +kernel
theorem dX0_write_77 : decode cX0_write 77 = .ok (.getfield 33, 3) := by decide +kernel
theorem dX0_write_80 : decode cX0_write 80 = .ok (.iload 4, 2) := by decide +kernel
theorem dX0_write_82 : decode cX0_write 82 = .ok (.iaload, 1) := by decide +kernel
theorem dX0_write_83 : decode cX0_write 83 = .ok (.bipush 6, 2) := by decide +kernel
theorem dX0_write_85 : decode cX0_write 85 = .ok (.ishl, 1) := by decide +kernel
theorem dX0_write_86 : decode cX0_write 86 = .ok (.ior, 1) := by decide +kernel
theorem dX0_write_87 : decode cX0_write 87 = .ok (.aload_n 0, 1) := by decide +kernel
theorem dX0_write_88 : decode cX0_write 88 = .ok (.getfield 50, 3) := by decide +kernel
theorem dX0_write_91 : decode cX0_write 91 = .ok (.iload 4, 2) := by decide +kernel
theorem dX0_write_93 : decode cX0_write 93 = .ok (.invokestatic 74, 3) := by decide +kernel
theorem dX0_write_96 : decode cX0_write 96 = .ok (.bipush 10, 2) := by decide +kernel
theorem dX0_write_98 : decode cX0_write 98 = .ok (.ishl, 1) := by decide +kernel
theorem dX0_write_99 : decode cX0_write 99 = .ok (.ior, 1) := by decide +kernel
theorem dX0_write_100 : decode cX0_write 100 = .ok (.iastore, 1) := by decide +kernel
theorem dX0_write_101 : decode cX0_write 101 = .ok (.iinc 4 1, 3) := by decide +kernel
theorem dX0_write_104 : decode cX0_write 104 = .ok (.goto (-57), 3) := by decide +kernel
theorem dX0_write_107 : decode cX0_write 107 = .ok (.iinc 3 16, 3) := by decide +kernel
theorem dX0_write_110 : decode cX0_write 110 = .ok (.aload_n 1, 1) := by decide +kernel
theorem dX0_write_111 : decode cX0_write 111 = .ok (.iload_n 3, 1) := by decide +kernel
theorem dX0_write_112 : decode cX0_write 112 = .ok (.aload_n 0, 1) := by decide +kernel
theorem dX0_write_113 : decode cX0_write 113 = .ok (.getfield 49, 3) := by decide +kernel
theorem dX0_write_116 : decode cX0_write 116 = .ok (.iastore, 1) := by decide +kernel
theorem dX0_write_117 : decode cX0_write 117 = .ok (.aload_n 1, 1) := by decide +kernel
theorem dX0_write_118 : decode cX0_write 118 = .ok (.iload_n 3, 1) := by decide +kernel
theorem dX0_write_119 : decode cX0_write 119 = .ok (.iconst 1, 1) := by decide +kernel
theorem dX0_write_120 : decode cX0_write 120 = .ok (.iadd, 1) := by decide +kernel
theorem dX0_write_121 : decode cX0_write 121 = .ok (.aload_n 0, 1) := by decide +kernel
theorem dX0_write_122 : decode cX0_write 122 = .ok (.getfield 56, 3) := by decide +kernel
theorem dX0_write_125 : decode cX0_write 125 = .ok (.iastore, 1) := by decide +kernel
theorem dX0_write_126 : decode cX0_write 126 = .ok (.aload_n 1, 1) := by decide +kernel
theorem dX0_write_127 : decode cX0_write 127 = .ok (.iload_n 3, 1) := by decide +kernel
theorem dX0_write_128 : decode cX0_write 128 = .ok (.iconst 2, 1) := by decide +kernel
theorem dX0_write_129 : decode cX0_write 129 = .ok (.iadd, 1) := by decide +kernel
theorem dX0_write_130 : decode cX0_write 130 = .ok (.aload_n 0, 1) := by decide +kernel
theorem dX0_write_131 : decode cX0_write 131 = .ok (.getfield 62, 3) := by decide +kernel
theorem dX0_write_134 : decode cX0_write 134 = .ok (.iastore, 1) := by decide +kernel
theorem dX0_write_135 : decode cX0_write 135 = .ok (.return_, 1) := by decide +kernel
theorem dX0_read_0 : decode cX0_read 0 = .ok (.iconst 0, 1) := by decide +kernel
theorem dX0_read_1 : decode cX0_read 1 = .ok (.istore_n 3, 1) := by decide +kernel
theorem dX0_read_2 : decode cX0_read 2 = .ok (.iload_n 3, 1) := by decide +kernel
theorem dX0_read_3 : decode cX0_read 3 = .ok (.bipush 8, 2) := by decide +kernel
theorem dX0_read_5 : decode cX0_read 5 = .ok (.if_icmp .ge 34, 3) := by decide +kernel
theorem dX0_read_8 : decode cX0_read 8 = .ok (.aload_n 0, 1) := by decide +kernel
theorem dX0_read_9 : decode cX0_read 9 = .ok (.getfield 18, 3) := by decide +kernel
theorem dX0_read_12 : decode cX0_read 12 = .ok (.iload_n 3, 1) := by decide +kernel
theorem dX0_read_13 : decode cX0_read 13 = .ok (.aload_n 1, 1) := by decide +kernel
theorem dX0_read_14 : decode cX0_read 14 = .ok (.iload_n 2, 1) := by decide +kernel
theorem dX0_read_15 : decode cX0_read 15 = .ok (.iload_n 3, 1) := by decide +kernel
theorem dX0_read_16 : decode cX0_read 16 = .ok (.iadd, 1) := by decide +kernel
theorem dX0_read_17 : decode cX0_read 17 = .ok (.iaload, 1) := by decide +kernel
theorem dX0_read_18 : decode cX0_read 18 = .ok (.iastore, 1) := by decide +kernel
theorem dX0_read_19 : decode cX0_read 19 = .ok (.aload_n 0, 1) := by decide +kernel
theorem dX0_read_20 : decode cX0_read 20 = .ok (.getfield 24, 3) := by decide +kernel
theorem dX0_read_23 : decode cX0_read 23 = .ok (.iload_n 3, 1) := by decide +kernel
theorem dX0_read_24 : decode cX0_read 24 = .ok (.aload_n 1, 1) := by decide +kernel
theorem dX0_read_25 : decode cX0_read 25 = .ok (.iload_n 2, 1) := by decide +kernel
theorem dX0_read_26 : decode cX0_read 26 = .ok (.bipush 8, 2) := by decide +kernel
theorem dX0_read_28 : decode cX0_read 28 = .ok (.iadd, 1) := by decide +kernel
theorem dX0_read_29 : decode cX0_read 29 = .ok (.iload_n 3, 1) := by decide +kernel
theorem dX0_read_30 : decode cX0_read 30 = .ok (.iadd, 1) := by decide +kernel
theorem dX0_read_31 : decode cX0_read 31 = .ok (.iaload, 1) := by decide +kernel
theorem dX0_read_32 : decode cX0_read 32 = .ok (.iastore, 1) := by decide +kernel
theorem dX0_read_33 : decode cX0_read 33 = .ok (.iinc 3 1, 3) := by decide +kernel
theorem dX0_read_36 : decode cX0_read 36 = .ok (.goto (-34), 3) := by decide +kernel
theorem dX0_read_39 : decode cX0_read 39 = .ok (.iload_n 2, 1) := by decide +kernel
theorem dX0_read_40 : decode cX0_read 40 = .ok (.bipush 16, 2) := by decide +kernel
theorem dX0_read_42 : decode cX0_read 42 = .ok (.iadd, 1) := by decide +kernel
theorem dX0_read_43 : decode cX0_read 43 = .ok (.istore_n 3, 1) := by decide +kernel
theorem dX0_read_44 : decode cX0_read 44 = .ok (.aload_n 0, 1) := by decide +kernel
theorem dX0_read_45 : decode cX0_read 45 = .ok (.iconst 0, 1) := by decide +kernel
theorem dX0_read_46 : decode cX0_read 46 = .ok (.putfield 50, 3) := by decide +kernel
theorem dX0_read_49 : decode cX0_read 49 = .ok (.iconst 0, 1) := by decide +kernel
theorem dX0_read_50 : decode cX0_read 50 = .ok (.istore 4, 2) := by decide +kernel
theorem dX0_read_52 : decode cX0_read 52 = .ok (.iload 4, 2) := by decide +kernel
theorem dX0_read_54 : decode cX0_read 54 = .ok (.bipush 16, 2) := by decide +kernel
theorem dX0_read_56 : decode cX0_read 56 = .ok (.if_icmp .ge 77, 3) := by decide +kernel
theorem dX0_read_59 : decode cX0_read 59 = .ok (.aload_n 1, 1) := by decide +kernel
theorem dX0_read_60 : decode cX0_read 60 = .ok (.iload_n 3, 1) := by decide +kernel
theorem dX0_read_61 : decode cX0_read 61 = .ok (.iload 4, 2) := by decide +kernel
theorem dX0_read_63 : decode cX0_read 63 = .ok (.iadd, 1) := by decide +kernel
theorem dX0_read_64 : decode cX0_read 64 = .ok (.iaload, 1) := by decide +kernel
theorem dX0_read_65 : decode cX0_read 65 = .ok (.istore 5, 2) := by decide +kernel
theorem dX0_read_67 : decode cX0_read 67 = .ok (.aload_n 0, 1) := by decide +kernel
theorem dX0_read_68 : decode cX0_read 68 = .ok (.getfield 27, 3) := by decide +kernel
theorem dX0_read_71 : decode cX0_read 71 = .ok (.iload 4, 2) := by decide +kernel
theorem dX0_read_73 : decode cX0_read 73 = .ok (.iload 5, 2) := by decide +kernel
theorem dX0_read_75 : decode cX0_read 75 = .ok (.bipush 7, 2) := by decide +kernel
theorem dX0_read_77 : decode cX0_read 77 = .ok (.iand, 1) := by decide +kernel
theorem dX0_read_78 : decode cX0_read 78 = .ok (.iastore, 1) := by decide +kernel
theorem dX0_read_79 : decode cX0_read 79 = .ok (.aload_n 0, 1) := by decide +kernel
theorem dX0_read_80 : decode cX0_read 80 = .ok (.getfield 30, 3) := by decide +kernel
theorem dX0_read_83 : decode cX0_read 83 = .ok (.iload 4, 2) := by decide +kernel
theorem dX0_read_85 : decode cX0_read 85 = .ok (.iload 5, 2) := by decide +kernel
theorem dX0_read_87 : decode cX0_read 87 = .ok (.iconst 3, 1) := by decide +kernel
theorem dX0_read_88 : decode cX0_read 88 = .ok (.ishr, 1) := by decide +kernel
theorem dX0_read_89 : decode cX0_read 89 = .ok (.bipush 7, 2) := by decide +kernel
theorem dX0_read_91 : decode cX0_read 91 = .ok (.iand, 1) := by decide +kernel
theorem dX0_read_92 : decode cX0_read 92 = .ok (.iastore, 1) := by decide +kernel
theorem dX0_read_93 : decode cX0_read 93 = .ok (.aload_n 0, 1) := by decide +kernel
theorem dX0_read_94 : decode cX0_read 94 = .ok (.getfield 33, 3) := by decide +kernel
theorem dX0_read_97 : decode cX0_read 97 = .ok (.iload 4, 2) := by decide +kernel
theorem dX0_read_99 : decode cX0_read 99 = .ok (.iload 5, 2) := by decide +kernel
theorem dX0_read_101 : decode cX0_read 101 = .ok (.bipush 6, 2) := by decide +kernel
theorem dX0_read_103 : decode cX0_read 103 = .ok (.ishr, 1) := by decide +kernel
theorem dX0_read_104 : decode cX0_read 104 = .ok (.bipush 15, 2) := by decide +kernel
theorem dX0_read_106 : decode cX0_read 106 = .ok (.iand, 1) := by decide +kernel
theorem dX0_read_107 : decode cX0_read 107 = .ok (.iastore, 1) := by decide +kernel
theorem dX0_read_108 : decode cX0_read 108 = .ok (.aload_n 0, 1) := by decide +kernel
theorem dX0_read_109 : decode cX0_read 109 = .ok (.dup, 1) := by decide +kernel
theorem dX0_read_110 : decode cX0_read 110 = .ok (.getfield 50, 3) := by decide +kernel
theorem dX0_read_113 : decode cX0_read 113 = .ok (.iload 5, 2) := by decide +kernel
theorem dX0_read_115 : decode cX0_read 115 = .ok (.bipush 10, 2) := by decide +kernel
theorem dX0_read_117 : decode cX0_read 117 = .ok (.invokestatic 74, 3) := by decide +kernel
theorem dX0_read_120 : decode cX0_read 120 = .ok (.iload 4, 2) := by decide +kernel
theorem dX0_read_122 : decode cX0_read 122 = .ok (.ishl, 1) := by decide +kernel
theorem dX0_read_123 : decode cX0_read 123 = .ok (.ior, 1) := by decide +kernel
theorem dX0_read_124 : decode cX0_read 124 = .ok (.putfield 50, 3) := by decide +kernel
theorem dX0_read_127 : decode cX0_read 127 = .ok (.iinc 4 1, 3) := by decide +kernel
theorem dX0_read_130 : decode cX0_read 130 = .ok (.goto (-78), 3) := by decide +kernel
theorem dX0_read_133 : decode cX0_read 133 = .ok (.iinc 3 16, 3) := by decide +kernel
theorem dX0_read_136 : decode cX0_read 136 = .ok (.aload_n 0, 1) := by decide +kernel
theorem dX0_read_137 : decode cX0_read 137 = .ok (.aload_n 1, 1) := by decide +kernel
theorem dX0_read_138 : decode cX0_read 138 = .ok (.iload_n 3, 1) := by decide +kernel
theorem dX0_read_139 : decode cX0_read 139 = .ok (.iaload, 1) := by decide +kernel
theorem dX0_read_140 : decode cX0_read 140 = .ok (.putfield 49, 3) := by decide +kernel
theorem dX0_read_143 : decode cX0_read 143 = .ok (.aload_n 0, 1) := by decide +kernel
theorem dX0_read_144 : decode cX0_read 144 = .ok (.aload_n 1, 1) := by decide +kernel
theorem dX0_read_145 : decode cX0_read 145 = .ok (.iload_n 3, 1) := by decide +kernel
theorem dX0_read_146 : decode cX0_read 146 = .ok (.iconst 1, 1) := by decide +kernel
theorem dX0_read_147 : decode cX0_read 147 = .ok (.iadd, 1) := by decide +kernel
theorem dX0_read_148 : decode cX0_read 148 = .ok (.iaload, 1) := by decide +kernel
theorem dX0_read_149 : decode cX0_read 149 = .ok (.putfield 56, 3) := by decide +kernel
theorem dX0_read_152 : decode cX0_read 152 = .ok (.aload_n 0, 1) := by decide +kernel
theorem dX0_read_153 : decode cX0_read 153 = .ok (.aload_n 1, 1) := by decide +kernel
theorem dX0_read_154 : decode cX0_read 154 = .ok (.iload_n 3, 1) := by decide +kernel
theorem dX0_read_155 : decode cX0_read 155 = .ok (.iconst 2, 1) := by decide +kernel
theorem dX0_read_156 : decode cX0_read 156 = .ok (.iadd, 1) := by decide +kernel
theorem dX0_read_157 : decode cX0_read 157 = .ok (.iaload, 1) := by decide +kernel
theorem dX0_read_158 : decode cX0_read 158 = .ok (.putfield 62, 3) := by decide +kernel
theorem dX0_read_161 : decode cX0_read 161 = .ok (.aload_n 0, 1) := by decide +kernel
theorem dX0_read_162 : decode cX0_read 162 = .ok (.invokevirtual 71, 3) := by decide +kernel
theorem dX0_read_165 : decode cX0_read 165 = .ok (.return_, 1) := by decide +kernel
theorem dX0_uncut_0 : decode cX0_uncut 0 = .ok (.iconst 1, 1) := by decide +kernel
theorem dX0_uncut_1 : decode cX0_uncut 1 = .ok (.aload_n 0, 1) := by decide +kernel
theorem dX0_uncut_2 : decode cX0_uncut 2 = .ok (.getfield 49, 3) := by decide +kernel
theorem dX0_uncut_5 : decode cX0_uncut 5 = .ok (.ishl, 1) := by decide +kernel
theorem dX0_uncut_6 : decode cX0_uncut 6 = .ok (.iconst 1, 1) := by decide +kernel
theorem dX0_uncut_7 : decode cX0_uncut 7 = .ok (.isub, 1) := by decide +kernel
theorem dX0_uncut_8 : decode cX0_uncut 8 = .ok (.aload_n 0, 1) := by decide +kernel
theorem dX0_uncut_9 : decode cX0_uncut 9 = .ok (.getfield 50, 3) := by decide +kernel
theorem dX0_uncut_12 : decode cX0_uncut 12 = .ok (.iconst (-1), 1) := by decide +kernel
theorem dX0_uncut_13 : decode cX0_uncut 13 = .ok (.ixor, 1) := by decide +kernel
theorem dX0_uncut_14 : decode cX0_uncut 14 = .ok (.iand, 1) := by decide +kernel
theorem dX0_uncut_15 : decode cX0_uncut 15 = .ok (.ireturn, 1) := by decide +kernel
theorem dX0_live_0 : decode cX0_live 0 = .ok (.aload_n 0, 1) := by decide +kernel
theorem dX0_live_1 : decode cX0_live 1 = .ok (.invokevirtual 78, 3) := by decide +kernel
theorem dX0_live_4 : decode cX0_live 4 = .ok (.istore_n 1, 1) := by decide +kernel
theorem dX0_live_5 : decode cX0_live 5 = .ok (.iconst 0, 1) := by decide +kernel
theorem dX0_live_6 : decode cX0_live 6 = .ok (.istore_n 2, 1) := by decide +kernel
theorem dX0_live_7 : decode cX0_live 7 = .ok (.iload_n 2, 1) := by decide +kernel
theorem dX0_live_8 : decode cX0_live 8 = .ok (.aload_n 0, 1) := by decide +kernel
theorem dX0_live_9 : decode cX0_live 9 = .ok (.getfield 49, 3) := by decide +kernel
theorem dX0_live_12 : decode cX0_live 12 = .ok (.if_icmp .ge 28, 3) := by decide +kernel
theorem dX0_live_15 : decode cX0_live 15 = .ok (.aload_n 0, 1) := by decide +kernel
theorem dX0_live_16 : decode cX0_live 16 = .ok (.getfield 33, 3) := by decide +kernel
theorem dX0_live_19 : decode cX0_live 19 = .ok (.iload_n 2, 1) := by decide +kernel
theorem dX0_live_20 : decode cX0_live 20 = .ok (.iaload, 1) := by decide +kernel
theorem dX0_live_21 : decode cX0_live 21 = .ok (.bipush 9, 2) := by decide +kernel
theorem dX0_live_23 : decode cX0_live 23 = .ok (.if_icmp .lt 11, 3) := by decide +kernel
theorem dX0_live_26 : decode cX0_live 26 = .ok (.iload_n 1, 1) := by decide +kernel
theorem dX0_live_27 : decode cX0_live 27 = .ok (.iconst 1, 1) := by decide +kernel
theorem dX0_live_28 : decode cX0_live 28 = .ok (.iload_n 2, 1) := by decide +kernel
theorem dX0_live_29 : decode cX0_live 29 = .ok (.ishl, 1) := by decide +kernel
theorem dX0_live_30 : decode cX0_live 30 = .ok (.iconst (-1), 1) := by decide +kernel
theorem dX0_live_31 : decode cX0_live 31 = .ok (.ixor, 1) := by decide +kernel
theorem dX0_live_32 : decode cX0_live 32 = .ok (.iand, 1) := by decide +kernel
theorem dX0_live_33 : decode cX0_live 33 = .ok (.istore_n 1, 1) := by decide +kernel
theorem dX0_live_34 : decode cX0_live 34 = .ok (.iinc 2 1, 3) := by decide +kernel
theorem dX0_live_37 : decode cX0_live 37 = .ok (.goto (-30), 3) := by decide +kernel
theorem dX0_live_40 : decode cX0_live 40 = .ok (.iload_n 1, 1) := by decide +kernel
theorem dX0_live_41 : decode cX0_live 41 = .ok (.ireturn, 1) := by decide +kernel
theorem dX0_touching_0 : decode cX0_touching 0 = .ok (.iload_n 1, 1) := by decide +kernel
theorem dX0_touching_1 : decode cX0_touching 1 = .ok (.aload_n 0, 1) := by decide +kernel
theorem dX0_touching_2 : decode cX0_touching 2 = .ok (.getfield 36, 3) := by decide +kernel
theorem dX0_touching_5 : decode cX0_touching 5 = .ok (.iload_n 2, 1) := by decide +kernel
theorem dX0_touching_6 : decode cX0_touching 6 = .ok (.iaload, 1) := by decide +kernel
theorem dX0_touching_7 : decode cX0_touching 7 = .ok (.iand, 1) := by decide +kernel
theorem dX0_touching_8 : decode cX0_touching 8 = .ok (.ireturn, 1) := by decide +kernel
theorem dX0_touchAnew_0 : decode cX0_touchAnew 0 = .ok (.aload_n 0, 1) := by decide +kernel
theorem dX0_touchAnew_1 : decode cX0_touchAnew 1 = .ok (.getfield 36, 3) := by decide +kernel
theorem dX0_touchAnew_4 : decode cX0_touchAnew 4 = .ok (.iconst 0, 1) := by decide +kernel
theorem dX0_touchAnew_5 : decode cX0_touchAnew 5 = .ok (.invokestatic 82, 3) := by decide +kernel
theorem dX0_touchAnew_8 : decode cX0_touchAnew 8 = .ok (.iconst 0, 1) := by decide +kernel
theorem dX0_touchAnew_9 : decode cX0_touchAnew 9 = .ok (.istore_n 1, 1) := by decide +kernel
theorem dX0_touchAnew_10 : decode cX0_touchAnew 10 = .ok (.iload_n 1, 1) := by decide +kernel
theorem dX0_touchAnew_11 : decode cX0_touchAnew 11 = .ok (.aload_n 0, 1) := by decide +kernel
theorem dX0_touchAnew_12 : decode cX0_touchAnew 12 = .ok (.getfield 49, 3) := by decide +kernel
theorem dX0_touchAnew_15 : decode cX0_touchAnew 15 = .ok (.if_icmp .ge 43, 3) := by decide +kernel
theorem dX0_touchAnew_18 : decode cX0_touchAnew 18 = .ok (.aload_n 0, 1) := by decide +kernel
theorem dX0_touchAnew_19 : decode cX0_touchAnew 19 = .ok (.getfield 36, 3) := by decide +kernel
theorem dX0_touchAnew_22 : decode cX0_touchAnew 22 = .ok (.aload_n 0, 1) := by decide +kernel
theorem dX0_touchAnew_23 : decode cX0_touchAnew 23 = .ok (.getfield 27, 3) := by decide +kernel
theorem dX0_touchAnew_26 : decode cX0_touchAnew 26 = .ok (.iload_n 1, 1) := by decide +kernel
theorem dX0_touchAnew_27 : decode cX0_touchAnew 27 = .ok (.iaload, 1) := by decide +kernel
theorem dX0_touchAnew_28 : decode cX0_touchAnew 28 = .ok (.dup2, 1) := by decide +kernel
theorem dX0_touchAnew_29 : decode cX0_touchAnew 29 = .ok (.iaload, 1) := by decide +kernel
theorem dX0_touchAnew_30 : decode cX0_touchAnew 30 = .ok (.iconst 1, 1) := by decide +kernel
theorem dX0_touchAnew_31 : decode cX0_touchAnew 31 = .ok (.iload_n 1, 1) := by decide +kernel
theorem dX0_touchAnew_32 : decode cX0_touchAnew 32 = .ok (.ishl, 1) := by decide +kernel
theorem dX0_touchAnew_33 : decode cX0_touchAnew 33 = .ok (.ior, 1) := by decide +kernel
theorem dX0_touchAnew_34 : decode cX0_touchAnew 34 = .ok (.iastore, 1) := by decide +kernel
theorem dX0_touchAnew_35 : decode cX0_touchAnew 35 = .ok (.aload_n 0, 1) := by decide +kernel
theorem dX0_touchAnew_36 : decode cX0_touchAnew 36 = .ok (.getfield 36, 3) := by decide +kernel
theorem dX0_touchAnew_39 : decode cX0_touchAnew 39 = .ok (.aload_n 0, 1) := by decide +kernel
theorem dX0_touchAnew_40 : decode cX0_touchAnew 40 = .ok (.getfield 30, 3) := by decide +kernel
theorem dX0_touchAnew_43 : decode cX0_touchAnew 43 = .ok (.iload_n 1, 1) := by decide +kernel
theorem dX0_touchAnew_44 : decode cX0_touchAnew 44 = .ok (.iaload, 1) := by decide +kernel
theorem dX0_touchAnew_45 : decode cX0_touchAnew 45 = .ok (.dup2, 1) := by decide +kernel
theorem dX0_touchAnew_46 : decode cX0_touchAnew 46 = .ok (.iaload, 1) := by decide +kernel
theorem dX0_touchAnew_47 : decode cX0_touchAnew 47 = .ok (.iconst 1, 1) := by decide +kernel
theorem dX0_touchAnew_48 : decode cX0_touchAnew 48 = .ok (.iload_n 1, 1) := by decide +kernel
theorem dX0_touchAnew_49 : decode cX0_touchAnew 49 = .ok (.ishl, 1) := by decide +kernel
theorem dX0_touchAnew_50 : decode cX0_touchAnew 50 = .ok (.ior, 1) := by decide +kernel
theorem dX0_touchAnew_51 : decode cX0_touchAnew 51 = .ok (.iastore, 1) := by decide +kernel
theorem dX0_touchAnew_52 : decode cX0_touchAnew 52 = .ok (.iinc 1 1, 3) := by decide +kernel
theorem dX0_touchAnew_55 : decode cX0_touchAnew 55 = .ok (.goto (-45), 3) := by decide +kernel
theorem dX0_touchAnew_58 : decode cX0_touchAnew 58 = .ok (.return_, 1) := by decide +kernel
theorem dX0_reach_0 : decode cX0_reach 0 = .ok (.iconst 1, 1) := by decide +kernel
theorem dX0_reach_1 : decode cX0_reach 1 = .ok (.iload_n 2, 1) := by decide +kernel
theorem dX0_reach_2 : decode cX0_reach 2 = .ok (.ishl, 1) := by decide +kernel
theorem dX0_reach_3 : decode cX0_reach 3 = .ok (.istore_n 3, 1) := by decide +kernel
theorem dX0_reach_4 : decode cX0_reach 4 = .ok (.iconst 0, 1) := by decide +kernel
theorem dX0_reach_5 : decode cX0_reach 5 = .ok (.istore 4, 2) := by decide +kernel
theorem dX0_reach_7 : decode cX0_reach 7 = .ok (.iload 4, 2) := by decide +kernel
theorem dX0_reach_9 : decode cX0_reach 9 = .ok (.aload_n 0, 1) := by decide +kernel
theorem dX0_reach_10 : decode cX0_reach 10 = .ok (.getfield 45, 3) := by decide +kernel
theorem dX0_reach_13 : decode cX0_reach 13 = .ok (.if_icmp .ge 82, 3) := by decide +kernel
theorem dX0_reach_16 : decode cX0_reach 16 = .ok (.iload_n 3, 1) := by decide +kernel
theorem dX0_reach_17 : decode cX0_reach 17 = .ok (.istore 5, 2) := by decide +kernel
theorem dX0_reach_19 : decode cX0_reach 19 = .ok (.iconst 0, 1) := by decide +kernel
theorem dX0_reach_20 : decode cX0_reach 20 = .ok (.istore 6, 2) := by decide +kernel
theorem dX0_reach_22 : decode cX0_reach 22 = .ok (.iload 6, 2) := by decide +kernel
theorem dX0_reach_24 : decode cX0_reach 24 = .ok (.aload_n 0, 1) := by decide +kernel
theorem dX0_reach_25 : decode cX0_reach 25 = .ok (.getfield 49, 3) := by decide +kernel
theorem dX0_reach_28 : decode cX0_reach 28 = .ok (.if_icmp .ge 52, 3) := by decide +kernel
theorem dX0_reach_31 : decode cX0_reach 31 = .ok (.iconst 1, 1) := by decide +kernel
theorem dX0_reach_32 : decode cX0_reach 32 = .ok (.aload_n 0, 1) := by decide +kernel
theorem dX0_reach_33 : decode cX0_reach 33 = .ok (.getfield 27, 3) := by decide +kernel
theorem dX0_reach_36 : decode cX0_reach 36 = .ok (.iload 6, 2) := by decide +kernel
theorem dX0_reach_38 : decode cX0_reach 38 = .ok (.iaload, 1) := by decide +kernel
theorem dX0_reach_39 : decode cX0_reach 39 = .ok (.ishl, 1) := by decide +kernel
theorem dX0_reach_40 : decode cX0_reach 40 = .ok (.iconst 1, 1) := by decide +kernel
theorem dX0_reach_41 : decode cX0_reach 41 = .ok (.aload_n 0, 1) := by decide +kernel
theorem dX0_reach_42 : decode cX0_reach 42 = .ok (.getfield 30, 3) := by decide +kernel
theorem dX0_reach_45 : decode cX0_reach 45 = .ok (.iload 6, 2) := by decide +kernel
theorem dX0_reach_47 : decode cX0_reach 47 = .ok (.iaload, 1) := by decide +kernel
theorem dX0_reach_48 : decode cX0_reach 48 = .ok (.ishl, 1) := by decide +kernel
theorem dX0_reach_49 : decode cX0_reach 49 = .ok (.ior, 1) := by decide +kernel
theorem dX0_reach_50 : decode cX0_reach 50 = .ok (.istore 7, 2) := by decide +kernel
theorem dX0_reach_52 : decode cX0_reach 52 = .ok (.iload_n 1, 1) := by decide +kernel
theorem dX0_reach_53 : decode cX0_reach 53 = .ok (.iload 6, 2) := by decide +kernel
theorem dX0_reach_55 : decode cX0_reach 55 = .ok (.invokestatic 74, 3) := by decide +kernel
theorem dX0_reach_58 : decode cX0_reach 58 = .ok (.iconst 1, 1) := by decide +kernel
theorem dX0_reach_59 : decode cX0_reach 59 = .ok (.if_icmp .ne 15, 3) := by decide +kernel
theorem dX0_reach_62 : decode cX0_reach 62 = .ok (.iload_n 3, 1) := by decide +kernel
theorem dX0_reach_63 : decode cX0_reach 63 = .ok (.iload 7, 2) := by decide +kernel
theorem dX0_reach_65 : decode cX0_reach 65 = .ok (.iand, 1) := by decide +kernel
theorem dX0_reach_66 : decode cX0_reach 66 = .ok (.ifCond .eq 8, 3) := by decide +kernel
theorem dX0_reach_69 : decode cX0_reach 69 = .ok (.iload_n 3, 1) := by decide +kernel
theorem dX0_reach_70 : decode cX0_reach 70 = .ok (.iload 7, 2) := by decide +kernel
theorem dX0_reach_72 : decode cX0_reach 72 = .ok (.ior, 1) := by decide +kernel
theorem dX0_reach_73 : decode cX0_reach 73 = .ok (.istore_n 3, 1) := by decide +kernel
theorem dX0_reach_74 : decode cX0_reach 74 = .ok (.iinc 6 1, 3) := by decide +kernel
theorem dX0_reach_77 : decode cX0_reach 77 = .ok (.goto (-55), 3) := by decide +kernel
theorem dX0_reach_80 : decode cX0_reach 80 = .ok (.iload_n 3, 1) := by decide +kernel
theorem dX0_reach_81 : decode cX0_reach 81 = .ok (.iload 5, 2) := by decide +kernel
theorem dX0_reach_83 : decode cX0_reach 83 = .ok (.if_icmp .ne 6, 3) := by decide +kernel
theorem dX0_reach_86 : decode cX0_reach 86 = .ok (.goto 9, 3) := by decide +kernel
theorem dX0_reach_89 : decode cX0_reach 89 = .ok (.iinc 4 1, 3) := by decide +kernel
theorem dX0_reach_92 : decode cX0_reach 92 = .ok (.goto (-85), 3) := by decide +kernel
theorem dX0_reach_95 : decode cX0_reach 95 = .ok (.iload_n 3, 1) := by decide +kernel
theorem dX0_reach_96 : decode cX0_reach 96 = .ok (.ireturn, 1) := by decide +kernel
theorem dX0_mayJoin_0 : decode cX0_mayJoin 0 = .ok (.aload_n 0, 1) := by decide +kernel
theorem dX0_mayJoin_1 : decode cX0_mayJoin 1 = .ok (.getfield 21, 3) := by decide +kernel
theorem dX0_mayJoin_4 : decode cX0_mayJoin 4 = .ok (.iload_n 1, 1) := by decide +kernel
theorem dX0_mayJoin_5 : decode cX0_mayJoin 5 = .ok (.iaload, 1) := by decide +kernel
theorem dX0_mayJoin_6 : decode cX0_mayJoin 6 = .ok (.iconst 2, 1) := by decide +kernel
theorem dX0_mayJoin_7 : decode cX0_mayJoin 7 = .ok (.if_icmp .ne 15, 3) := by decide +kernel
theorem dX0_mayJoin_10 : decode cX0_mayJoin 10 = .ok (.aload_n 0, 1) := by decide +kernel
theorem dX0_mayJoin_11 : decode cX0_mayJoin 11 = .ok (.getfield 21, 3) := by decide +kernel
theorem dX0_mayJoin_14 : decode cX0_mayJoin 14 = .ok (.iload_n 2, 1) := by decide +kernel
theorem dX0_mayJoin_15 : decode cX0_mayJoin 15 = .ok (.iaload, 1) := by decide +kernel
theorem dX0_mayJoin_16 : decode cX0_mayJoin 16 = .ok (.iconst 2, 1) := by decide +kernel
theorem dX0_mayJoin_17 : decode cX0_mayJoin 17 = .ok (.if_icmp .ne 5, 3) := by decide +kernel
theorem dX0_mayJoin_20 : decode cX0_mayJoin 20 = .ok (.iconst 0, 1) := by decide +kernel
theorem dX0_mayJoin_21 : decode cX0_mayJoin 21 = .ok (.ireturn, 1) := by decide +kernel
theorem dX0_mayJoin_22 : decode cX0_mayJoin 22 = .ok (.aload_n 0, 1) := by decide +kernel
theorem dX0_mayJoin_23 : decode cX0_mayJoin 23 = .ok (.aload_n 0, 1) := by decide +kernel
theorem dX0_mayJoin_24 : decode cX0_mayJoin 24 = .ok (.invokevirtual 78, 3) := by decide +kernel
theorem dX0_mayJoin_27 : decode cX0_mayJoin 27 = .ok (.iload_n 1, 1) := by decide +kernel
theorem dX0_mayJoin_28 : decode cX0_mayJoin 28 = .ok (.invokevirtual 88, 3) := by decide +kernel
theorem dX0_mayJoin_31 : decode cX0_mayJoin 31 = .ok (.aload_n 0, 1) := by decide +kernel
theorem dX0_mayJoin_32 : decode cX0_mayJoin 32 = .ok (.aload_n 0, 1) := by decide +kernel
theorem dX0_mayJoin_33 : decode cX0_mayJoin 33 = .ok (.invokevirtual 78, 3) := by decide +kernel
theorem dX0_mayJoin_36 : decode cX0_mayJoin 36 = .ok (.iload_n 2, 1) := by decide +kernel
theorem dX0_mayJoin_37 : decode cX0_mayJoin 37 = .ok (.invokevirtual 88, 3) := by decide +kernel
theorem dX0_mayJoin_40 : decode cX0_mayJoin 40 = .ok (.iand, 1) := by decide +kernel
theorem dX0_mayJoin_41 : decode cX0_mayJoin 41 = .ok (.ifCond .ne 7, 3) := by decide +kernel
theorem dX0_mayJoin_44 : decode cX0_mayJoin 44 = .ok (.iconst 1, 1) := by decide +kernel
theorem dX0_mayJoin_45 : decode cX0_mayJoin 45 = .ok (.goto 4, 3) := by decide +kernel
theorem dX0_mayJoin_48 : decode cX0_mayJoin 48 = .ok (.iconst 0, 1) := by decide +kernel
theorem dX0_mayJoin_49 : decode cX0_mayJoin 49 = .ok (.ireturn, 1) := by decide +kernel
theorem dX0_apart_0 : decode cX0_apart 0 = .ok (.aload_n 0, 1) := by decide +kernel
theorem dX0_apart_1 : decode cX0_apart 1 = .ok (.getfield 9, 3) := by decide +kernel
theorem dX0_apart_4 : decode cX0_apart 4 = .ok (.iload_n 1, 1) := by decide +kernel
theorem dX0_apart_5 : decode cX0_apart 5 = .ok (.iaload, 1) := by decide +kernel
theorem dX0_apart_6 : decode cX0_apart 6 = .ok (.aload_n 0, 1) := by decide +kernel
theorem dX0_apart_7 : decode cX0_apart 7 = .ok (.getfield 9, 3) := by decide +kernel
theorem dX0_apart_10 : decode cX0_apart 10 = .ok (.iload_n 2, 1) := by decide +kernel
theorem dX0_apart_11 : decode cX0_apart 11 = .ok (.iaload, 1) := by decide +kernel
theorem dX0_apart_12 : decode cX0_apart 12 = .ok (.isub, 1) := by decide +kernel
theorem dX0_apart_13 : decode cX0_apart 13 = .ok (.invokestatic 91, 3) := by decide +kernel
theorem dX0_apart_16 : decode cX0_apart 16 = .ok (.ireturn, 1) := by decide +kernel
theorem dX0_price_0 : decode cX0_price 0 = .ok (.iconst 1, 1) := by decide +kernel
theorem dX0_price_1 : decode cX0_price 1 = .ok (.aload_n 0, 1) := by decide +kernel
theorem dX0_price_2 : decode cX0_price 2 = .ok (.iload_n 1, 1) := by decide +kernel
theorem dX0_price_3 : decode cX0_price 3 = .ok (.iload_n 2, 1) := by decide +kernel
theorem dX0_price_4 : decode cX0_price 4 = .ok (.invokevirtual 97, 3) := by decide +kernel
theorem dX0_price_7 : decode cX0_price 7 = .ok (.invokestatic 100, 3) := by decide +kernel
theorem dX0_price_10 : decode cX0_price 10 = .ok (.ireturn, 1) := by decide +kernel
theorem dX0_think_0 : decode cX0_think 0 = .ok (.aload_n 0, 1) := by decide +kernel
theorem dX0_think_1 : decode cX0_think 1 = .ok (.getfield 27, 3) := by decide +kernel
theorem dX0_think_4 : decode cX0_think 4 = .ok (.aload_n 0, 1) := by decide +kernel
theorem dX0_think_5 : decode cX0_think 5 = .ok (.getfield 49, 3) := by decide +kernel
theorem dX0_think_8 : decode cX0_think 8 = .ok (.iload_n 1, 1) := by decide +kernel
theorem dX0_think_9 : decode cX0_think 9 = .ok (.iastore, 1) := by decide +kernel
theorem dX0_think_10 : decode cX0_think 10 = .ok (.aload_n 0, 1) := by decide +kernel
theorem dX0_think_11 : decode cX0_think 11 = .ok (.getfield 30, 3) := by decide +kernel
theorem dX0_think_14 : decode cX0_think 14 = .ok (.aload_n 0, 1) := by decide +kernel
theorem dX0_think_15 : decode cX0_think 15 = .ok (.getfield 49, 3) := by decide +kernel
theorem dX0_think_18 : decode cX0_think 18 = .ok (.iload_n 2, 1) := by decide +kernel
theorem dX0_think_19 : decode cX0_think 19 = .ok (.iastore, 1) := by decide +kernel
theorem dX0_think_20 : decode cX0_think 20 = .ok (.aload_n 0, 1) := by decide +kernel
theorem dX0_think_21 : decode cX0_think 21 = .ok (.getfield 33, 3) := by decide +kernel
theorem dX0_think_24 : decode cX0_think 24 = .ok (.aload_n 0, 1) := by decide +kernel
theorem dX0_think_25 : decode cX0_think 25 = .ok (.getfield 49, 3) := by decide +kernel
theorem dX0_think_28 : decode cX0_think 28 = .ok (.iconst 0, 1) := by decide +kernel
theorem dX0_think_29 : decode cX0_think 29 = .ok (.iastore, 1) := by decide +kernel
theorem dX0_think_30 : decode cX0_think 30 = .ok (.aload_n 0, 1) := by decide +kernel
theorem dX0_think_31 : decode cX0_think 31 = .ok (.dup, 1) := by decide +kernel
theorem dX0_think_32 : decode cX0_think 32 = .ok (.getfield 50, 3) := by decide +kernel
theorem dX0_think_35 : decode cX0_think 35 = .ok (.iconst 1, 1) := by decide +kernel
theorem dX0_think_36 : decode cX0_think 36 = .ok (.aload_n 0, 1) := by decide +kernel
theorem dX0_think_37 : decode cX0_think 37 = .ok (.getfield 49, 3) := by decide +kernel
theorem dX0_think_40 : decode cX0_think 40 = .ok (.ishl, 1) := by decide +kernel
theorem dX0_think_41 : decode cX0_think 41 = .ok (.iconst (-1), 1) := by decide +kernel
theorem dX0_think_42 : decode cX0_think 42 = .ok (.ixor, 1) := by decide +kernel
theorem dX0_think_43 : decode cX0_think 43 = .ok (.iand, 1) := by decide +kernel
theorem dX0_think_44 : decode cX0_think 44 = .ok (.putfield 50, 3) := by decide +kernel
theorem dX0_think_47 : decode cX0_think 47 = .ok (.iconst 0, 1) := by decide +kernel
theorem dX0_think_48 : decode cX0_think 48 = .ok (.istore_n 3, 1) := by decide +kernel
theorem dX0_think_49 : decode cX0_think 49 = .ok (.iload_n 3, 1) := by decide +kernel
theorem dX0_think_50 : decode cX0_think 50 = .ok (.aload_n 0, 1) := by decide +kernel
theorem dX0_think_51 : decode cX0_think 51 = .ok (.getfield 45, 3) := by decide +kernel
theorem dX0_think_54 : decode cX0_think 54 = .ok (.if_icmp .ge 26, 3) := by decide +kernel
theorem dX0_think_57 : decode cX0_think 57 = .ok (.aload_n 0, 1) := by decide +kernel
theorem dX0_think_58 : decode cX0_think 58 = .ok (.getfield 36, 3) := by decide +kernel
theorem dX0_think_61 : decode cX0_think 61 = .ok (.iload_n 3, 1) := by decide +kernel
theorem dX0_think_62 : decode cX0_think 62 = .ok (.dup2, 1) := by decide +kernel
theorem dX0_think_63 : decode cX0_think 63 = .ok (.iaload, 1) := by decide +kernel
theorem dX0_think_64 : decode cX0_think 64 = .ok (.iconst 1, 1) := by decide +kernel
theorem dX0_think_65 : decode cX0_think 65 = .ok (.aload_n 0, 1) := by decide +kernel
theorem dX0_think_66 : decode cX0_think 66 = .ok (.getfield 49, 3) := by decide +kernel
theorem dX0_think_69 : decode cX0_think 69 = .ok (.ishl, 1) := by decide +kernel
theorem dX0_think_70 : decode cX0_think 70 = .ok (.iconst (-1), 1) := by decide +kernel
theorem dX0_think_71 : decode cX0_think 71 = .ok (.ixor, 1) := by decide +kernel
theorem dX0_think_72 : decode cX0_think 72 = .ok (.iand, 1) := by decide +kernel
theorem dX0_think_73 : decode cX0_think 73 = .ok (.iastore, 1) := by decide +kernel
theorem dX0_think_74 : decode cX0_think 74 = .ok (.iinc 3 1, 3) := by decide +kernel
theorem dX0_think_77 : decode cX0_think 77 = .ok (.goto (-28), 3) := by decide +kernel
theorem dX0_think_80 : decode cX0_think 80 = .ok (.aload_n 0, 1) := by decide +kernel
theorem dX0_think_81 : decode cX0_think 81 = .ok (.getfield 36, 3) := by decide +kernel
theorem dX0_think_84 : decode cX0_think 84 = .ok (.iload_n 1, 1) := by decide +kernel
theorem dX0_think_85 : decode cX0_think 85 = .ok (.dup2, 1) := by decide +kernel
theorem dX0_think_86 : decode cX0_think 86 = .ok (.iaload, 1) := by decide +kernel
theorem dX0_think_87 : decode cX0_think 87 = .ok (.iconst 1, 1) := by decide +kernel
theorem dX0_think_88 : decode cX0_think 88 = .ok (.aload_n 0, 1) := by decide +kernel
theorem dX0_think_89 : decode cX0_think 89 = .ok (.getfield 49, 3) := by decide +kernel
theorem dX0_think_92 : decode cX0_think 92 = .ok (.ishl, 1) := by decide +kernel
theorem dX0_think_93 : decode cX0_think 93 = .ok (.ior, 1) := by decide +kernel
theorem dX0_think_94 : decode cX0_think 94 = .ok (.iastore, 1) := by decide +kernel
theorem dX0_think_95 : decode cX0_think 95 = .ok (.aload_n 0, 1) := by decide +kernel
theorem dX0_think_96 : decode cX0_think 96 = .ok (.getfield 36, 3) := by decide +kernel
theorem dX0_think_99 : decode cX0_think 99 = .ok (.iload_n 2, 1) := by decide +kernel
theorem dX0_think_100 : decode cX0_think 100 = .ok (.dup2, 1) := by decide +kernel
theorem dX0_think_101 : decode cX0_think 101 = .ok (.iaload, 1) := by decide +kernel
theorem dX0_think_102 : decode cX0_think 102 = .ok (.iconst 1, 1) := by decide +kernel
theorem dX0_think_103 : decode cX0_think 103 = .ok (.aload_n 0, 1) := by decide +kernel
theorem dX0_think_104 : decode cX0_think 104 = .ok (.getfield 49, 3) := by decide +kernel
theorem dX0_think_107 : decode cX0_think 107 = .ok (.ishl, 1) := by decide +kernel
theorem dX0_think_108 : decode cX0_think 108 = .ok (.ior, 1) := by decide +kernel
theorem dX0_think_109 : decode cX0_think 109 = .ok (.iastore, 1) := by decide +kernel
theorem dX0_think_110 : decode cX0_think 110 = .ok (.return_, 1) := by decide +kernel
theorem dX0_addCopper_0 : decode cX0_addCopper 0 = .ok (.aload_n 0, 1) := by decide +kernel
theorem dX0_addCopper_1 : decode cX0_addCopper 1 = .ok (.bipush 99, 2) := by decide +kernel
theorem dX0_addCopper_3 : decode cX0_addCopper 3 = .ok (.aload_n 0, 1) := by decide +kernel
theorem dX0_addCopper_4 : decode cX0_addCopper 4 = .ok (.getfield 56, 3) := by decide +kernel
theorem dX0_addCopper_7 : decode cX0_addCopper 7 = .ok (.iload_n 1, 1) := by decide +kernel
theorem dX0_addCopper_8 : decode cX0_addCopper 8 = .ok (.iadd, 1) := by decide +kernel
theorem dX0_addCopper_9 : decode cX0_addCopper 9 = .ok (.invokestatic 103, 3) := by decide +kernel
theorem dX0_addCopper_12 : decode cX0_addCopper 12 = .ok (.putfield 56, 3) := by decide +kernel
theorem dX0_addCopper_15 : decode cX0_addCopper 15 = .ok (.return_, 1) := by decide +kernel
theorem dX0_bearsEarthed_0 : decode cX0_bearsEarthed 0 = .ok (.bipush 99, 2) := by decide +kernel
theorem dX0_bearsEarthed_2 : decode cX0_bearsEarthed 2 = .ok (.aload_n 0, 1) := by decide +kernel
theorem dX0_bearsEarthed_3 : decode cX0_bearsEarthed 3 = .ok (.getfield 18, 3) := by decide +kernel
theorem dX0_bearsEarthed_6 : decode cX0_bearsEarthed 6 = .ok (.iload_n 1, 1) := by decide +kernel
theorem dX0_bearsEarthed_7 : decode cX0_bearsEarthed 7 = .ok (.iaload, 1) := by decide +kernel
theorem dX0_bearsEarthed_8 : decode cX0_bearsEarthed 8 = .ok (.bipush 10, 2) := by decide +kernel
theorem dX0_bearsEarthed_10 : decode cX0_bearsEarthed 10 = .ok (.iadd, 1) := by decide +kernel
theorem dX0_bearsEarthed_11 : decode cX0_bearsEarthed 11 = .ok (.invokestatic 103, 3) := by decide +kernel
theorem dX0_bearsEarthed_14 : decode cX0_bearsEarthed 14 = .ok (.ireturn, 1) := by decide +kernel
theorem dX0_scorch_0 : decode cX0_scorch 0 = .ok (.iconst 0, 1) := by decide +kernel
theorem dX0_scorch_1 : decode cX0_scorch 1 = .ok (.istore_n 2, 1) := by decide +kernel
theorem dX0_scorch_2 : decode cX0_scorch 2 = .ok (.iload_n 2, 1) := by decide +kernel
theorem dX0_scorch_3 : decode cX0_scorch 3 = .ok (.aload_n 0, 1) := by decide +kernel
theorem dX0_scorch_4 : decode cX0_scorch 4 = .ok (.getfield 45, 3) := by decide +kernel
theorem dX0_scorch_7 : decode cX0_scorch 7 = .ok (.if_icmp .ge 55, 3) := by decide +kernel
theorem dX0_scorch_10 : decode cX0_scorch 10 = .ok (.iload_n 1, 1) := by decide +kernel
theorem dX0_scorch_11 : decode cX0_scorch 11 = .ok (.iload_n 2, 1) := by decide +kernel
theorem dX0_scorch_12 : decode cX0_scorch 12 = .ok (.invokestatic 74, 3) := by decide +kernel
theorem dX0_scorch_15 : decode cX0_scorch 15 = .ok (.iconst 1, 1) := by decide +kernel
theorem dX0_scorch_16 : decode cX0_scorch 16 = .ok (.if_icmp .ne 40, 3) := by decide +kernel
theorem dX0_scorch_19 : decode cX0_scorch 19 = .ok (.aload_n 0, 1) := by decide +kernel
theorem dX0_scorch_20 : decode cX0_scorch 20 = .ok (.getfield 24, 3) := by decide +kernel
theorem dX0_scorch_23 : decode cX0_scorch 23 = .ok (.iload_n 2, 1) := by decide +kernel
theorem dX0_scorch_24 : decode cX0_scorch 24 = .ok (.bipush 99, 2) := by decide +kernel
theorem dX0_scorch_26 : decode cX0_scorch 26 = .ok (.aload_n 0, 1) := by decide +kernel
theorem dX0_scorch_27 : decode cX0_scorch 27 = .ok (.getfield 24, 3) := by decide +kernel
theorem dX0_scorch_30 : decode cX0_scorch 30 = .ok (.iload_n 2, 1) := by decide +kernel
theorem dX0_scorch_31 : decode cX0_scorch 31 = .ok (.iaload, 1) := by decide +kernel
theorem dX0_scorch_32 : decode cX0_scorch 32 = .ok (.iconst 1, 1) := by decide +kernel
theorem dX0_scorch_33 : decode cX0_scorch 33 = .ok (.iadd, 1) := by decide +kernel
theorem dX0_scorch_34 : decode cX0_scorch 34 = .ok (.invokestatic 103, 3) := by decide +kernel
theorem dX0_scorch_37 : decode cX0_scorch 37 = .ok (.iastore, 1) := by decide +kernel
theorem dX0_scorch_38 : decode cX0_scorch 38 = .ok (.aload_n 0, 1) := by decide +kernel
theorem dX0_scorch_39 : decode cX0_scorch 39 = .ok (.getfield 18, 3) := by decide +kernel
theorem dX0_scorch_42 : decode cX0_scorch 42 = .ok (.iload_n 2, 1) := by decide +kernel
theorem dX0_scorch_43 : decode cX0_scorch 43 = .ok (.iconst 1, 1) := by decide +kernel
theorem dX0_scorch_44 : decode cX0_scorch 44 = .ok (.aload_n 0, 1) := by decide +kernel
theorem dX0_scorch_45 : decode cX0_scorch 45 = .ok (.getfield 18, 3) := by decide +kernel
theorem dX0_scorch_48 : decode cX0_scorch 48 = .ok (.iload_n 2, 1) := by decide +kernel
theorem dX0_scorch_49 : decode cX0_scorch 49 = .ok (.iaload, 1) := by decide +kernel
theorem dX0_scorch_50 : decode cX0_scorch 50 = .ok (.iconst 1, 1) := by decide +kernel
theorem dX0_scorch_51 : decode cX0_scorch 51 = .ok (.isub, 1) := by decide +kernel
theorem dX0_scorch_52 : decode cX0_scorch 52 = .ok (.invokestatic 100, 3) := by decide +kernel
theorem dX0_scorch_55 : decode cX0_scorch 55 = .ok (.iastore, 1) := by decide +kernel
theorem dX0_scorch_56 : decode cX0_scorch 56 = .ok (.iinc 2 1, 3) := by decide +kernel
theorem dX0_scorch_59 : decode cX0_scorch 59 = .ok (.goto (-57), 3) := by decide +kernel
theorem dX0_scorch_62 : decode cX0_scorch 62 = .ok (.return_, 1) := by decide +kernel
theorem dX0_passSummer_0 : decode cX0_passSummer 0 = .ok (.iconst 0, 1) := by decide +kernel
theorem dX0_passSummer_1 : decode cX0_passSummer 1 = .ok (.istore_n 1, 1) := by decide +kernel
theorem dX0_passSummer_2 : decode cX0_passSummer 2 = .ok (.iload_n 1, 1) := by decide +kernel
theorem dX0_passSummer_3 : decode cX0_passSummer 3 = .ok (.aload_n 0, 1) := by decide +kernel
theorem dX0_passSummer_4 : decode cX0_passSummer 4 = .ok (.getfield 49, 3) := by decide +kernel
theorem dX0_passSummer_7 : decode cX0_passSummer 7 = .ok (.if_icmp .ge 39, 3) := by decide +kernel
theorem dX0_passSummer_10 : decode cX0_passSummer 10 = .ok (.aload_n 0, 1) := by decide +kernel
theorem dX0_passSummer_11 : decode cX0_passSummer 11 = .ok (.getfield 50, 3) := by decide +kernel
theorem dX0_passSummer_14 : decode cX0_passSummer 14 = .ok (.iload_n 1, 1) := by decide +kernel
theorem dX0_passSummer_15 : decode cX0_passSummer 15 = .ok (.invokestatic 74, 3) := by decide +kernel
theorem dX0_passSummer_18 : decode cX0_passSummer 18 = .ok (.ifCond .ne 22, 3) := by decide +kernel
theorem dX0_passSummer_21 : decode cX0_passSummer 21 = .ok (.aload_n 0, 1) := by decide +kernel
theorem dX0_passSummer_22 : decode cX0_passSummer 22 = .ok (.getfield 33, 3) := by decide +kernel
theorem dX0_passSummer_25 : decode cX0_passSummer 25 = .ok (.iload_n 1, 1) := by decide +kernel
theorem dX0_passSummer_26 : decode cX0_passSummer 26 = .ok (.bipush 9, 2) := by decide +kernel
theorem dX0_passSummer_28 : decode cX0_passSummer 28 = .ok (.aload_n 0, 1) := by decide +kernel
theorem dX0_passSummer_29 : decode cX0_passSummer 29 = .ok (.getfield 33, 3) := by decide +kernel
theorem dX0_passSummer_32 : decode cX0_passSummer 32 = .ok (.iload_n 1, 1) := by decide +kernel
theorem dX0_passSummer_33 : decode cX0_passSummer 33 = .ok (.iaload, 1) := by decide +kernel
theorem dX0_passSummer_34 : decode cX0_passSummer 34 = .ok (.iconst 1, 1) := by decide +kernel
theorem dX0_passSummer_35 : decode cX0_passSummer 35 = .ok (.iadd, 1) := by decide +kernel
theorem dX0_passSummer_36 : decode cX0_passSummer 36 = .ok (.invokestatic 103, 3) := by decide +kernel
theorem dX0_passSummer_39 : decode cX0_passSummer 39 = .ok (.iastore, 1) := by decide +kernel
theorem dX0_passSummer_40 : decode cX0_passSummer 40 = .ok (.iinc 1 1, 3) := by decide +kernel
theorem dX0_passSummer_43 : decode cX0_passSummer 43 = .ok (.goto (-41), 3) := by decide +kernel
theorem dX0_passSummer_46 : decode cX0_passSummer 46 = .ok (.aload_n 0, 1) := by decide +kernel
theorem dX0_passSummer_47 : decode cX0_passSummer 47 = .ok (.iconst 3, 1) := by decide +kernel
theorem dX0_passSummer_48 : decode cX0_passSummer 48 = .ok (.invokevirtual 106, 3) := by decide +kernel
theorem dX0_passSummer_51 : decode cX0_passSummer 51 = .ok (.aload_n 0, 1) := by decide +kernel
theorem dX0_passSummer_52 : decode cX0_passSummer 52 = .ok (.dup, 1) := by decide +kernel
theorem dX0_passSummer_53 : decode cX0_passSummer 53 = .ok (.getfield 62, 3) := by decide +kernel
theorem dX0_passSummer_56 : decode cX0_passSummer 56 = .ok (.iconst 1, 1) := by decide +kernel
theorem dX0_passSummer_57 : decode cX0_passSummer 57 = .ok (.iadd, 1) := by decide +kernel
theorem dX0_passSummer_58 : decode cX0_passSummer 58 = .ok (.putfield 62, 3) := by decide +kernel
theorem dX0_passSummer_61 : decode cX0_passSummer 61 = .ok (.return_, 1) := by decide +kernel
theorem dX0_heights_0 : decode cX0_heights 0 = .ok (.iconst 0, 1) := by decide +kernel
theorem dX0_heights_1 : decode cX0_heights 1 = .ok (.istore_n 1, 1) := by decide +kernel
theorem dX0_heights_2 : decode cX0_heights 2 = .ok (.iconst 0, 1) := by decide +kernel
theorem dX0_heights_3 : decode cX0_heights 3 = .ok (.istore_n 2, 1) := by decide +kernel
theorem dX0_heights_4 : decode cX0_heights 4 = .ok (.iload_n 2, 1) := by decide +kernel
theorem dX0_heights_5 : decode cX0_heights 5 = .ok (.aload_n 0, 1) := by decide +kernel
theorem dX0_heights_6 : decode cX0_heights 6 = .ok (.getfield 45, 3) := by decide +kernel
theorem dX0_heights_9 : decode cX0_heights 9 = .ok (.if_icmp .ge 18, 3) := by decide +kernel
theorem dX0_heights_12 : decode cX0_heights 12 = .ok (.iload_n 1, 1) := by decide +kernel
theorem dX0_heights_13 : decode cX0_heights 13 = .ok (.aload_n 0, 1) := by decide +kernel
theorem dX0_heights_14 : decode cX0_heights 14 = .ok (.getfield 15, 3) := by decide +kernel
theorem dX0_heights_17 : decode cX0_heights 17 = .ok (.iload_n 2, 1) := by decide +kernel
theorem dX0_heights_18 : decode cX0_heights 18 = .ok (.iaload, 1) := by decide +kernel
theorem dX0_heights_19 : decode cX0_heights 19 = .ok (.iadd, 1) := by decide +kernel
theorem dX0_heights_20 : decode cX0_heights 20 = .ok (.istore_n 1, 1) := by decide +kernel
theorem dX0_heights_21 : decode cX0_heights 21 = .ok (.iinc 2 1, 3) := by decide +kernel
theorem dX0_heights_24 : decode cX0_heights 24 = .ok (.goto (-20), 3) := by decide +kernel
theorem dX0_heights_27 : decode cX0_heights 27 = .ok (.iload_n 1, 1) := by decide +kernel
theorem dX0_heights_28 : decode cX0_heights 28 = .ok (.ireturn, 1) := by decide +kernel
theorem dX0_leastBorne_0 : decode cX0_leastBorne 0 = .ok (.bipush 99, 2) := by decide +kernel
theorem dX0_leastBorne_2 : decode cX0_leastBorne 2 = .ok (.istore_n 1, 1) := by decide +kernel
theorem dX0_leastBorne_3 : decode cX0_leastBorne 3 = .ok (.iconst 0, 1) := by decide +kernel
theorem dX0_leastBorne_4 : decode cX0_leastBorne 4 = .ok (.istore_n 2, 1) := by decide +kernel
theorem dX0_leastBorne_5 : decode cX0_leastBorne 5 = .ok (.iload_n 2, 1) := by decide +kernel
theorem dX0_leastBorne_6 : decode cX0_leastBorne 6 = .ok (.aload_n 0, 1) := by decide +kernel
theorem dX0_leastBorne_7 : decode cX0_leastBorne 7 = .ok (.getfield 45, 3) := by decide +kernel
theorem dX0_leastBorne_10 : decode cX0_leastBorne 10 = .ok (.if_icmp .ge 20, 3) := by decide +kernel
theorem dX0_leastBorne_13 : decode cX0_leastBorne 13 = .ok (.iload_n 1, 1) := by decide +kernel
theorem dX0_leastBorne_14 : decode cX0_leastBorne 14 = .ok (.aload_n 0, 1) := by decide +kernel
theorem dX0_leastBorne_15 : decode cX0_leastBorne 15 = .ok (.getfield 18, 3) := by decide +kernel
theorem dX0_leastBorne_18 : decode cX0_leastBorne 18 = .ok (.iload_n 2, 1) := by decide +kernel
theorem dX0_leastBorne_19 : decode cX0_leastBorne 19 = .ok (.iaload, 1) := by decide +kernel
theorem dX0_leastBorne_20 : decode cX0_leastBorne 20 = .ok (.invokestatic 103, 3) := by decide +kernel
theorem dX0_leastBorne_23 : decode cX0_leastBorne 23 = .ok (.istore_n 1, 1) := by decide +kernel
theorem dX0_leastBorne_24 : decode cX0_leastBorne 24 = .ok (.iinc 2 1, 3) := by decide +kernel
theorem dX0_leastBorne_27 : decode cX0_leastBorne 27 = .ok (.goto (-22), 3) := by decide +kernel
theorem dX0_leastBorne_30 : decode cX0_leastBorne 30 = .ok (.iload_n 1, 1) := by decide +kernel
theorem dX0_leastBorne_31 : decode cX0_leastBorne 31 = .ok (.ireturn, 1) := by decide +kernel
theorem dX0_highest_0 : decode cX0_highest 0 = .ok (.iconst 0, 1) := by decide +kernel
theorem dX0_highest_1 : decode cX0_highest 1 = .ok (.istore_n 2, 1) := by decide +kernel
theorem dX0_highest_2 : decode cX0_highest 2 = .ok (.iconst 1, 1) := by decide +kernel
theorem dX0_highest_3 : decode cX0_highest 3 = .ok (.istore_n 3, 1) := by decide +kernel
theorem dX0_highest_4 : decode cX0_highest 4 = .ok (.iload_n 3, 1) := by decide +kernel
theorem dX0_highest_5 : decode cX0_highest 5 = .ok (.aload_n 0, 1) := by decide +kernel
theorem dX0_highest_6 : decode cX0_highest 6 = .ok (.getfield 45, 3) := by decide +kernel
theorem dX0_highest_9 : decode cX0_highest 9 = .ok (.if_icmp .ge 20, 3) := by decide +kernel
theorem dX0_highest_12 : decode cX0_highest 12 = .ok (.aload_n 1, 1) := by decide +kernel
theorem dX0_highest_13 : decode cX0_highest 13 = .ok (.iload_n 3, 1) := by decide +kernel
theorem dX0_highest_14 : decode cX0_highest 14 = .ok (.iaload, 1) := by decide +kernel
theorem dX0_highest_15 : decode cX0_highest 15 = .ok (.aload_n 1, 1) := by decide +kernel
theorem dX0_highest_16 : decode cX0_highest 16 = .ok (.iload_n 2, 1) := by decide +kernel
theorem dX0_highest_17 : decode cX0_highest 17 = .ok (.iaload, 1) := by decide +kernel
theorem dX0_highest_18 : decode cX0_highest 18 = .ok (.if_icmp .le 5, 3) := by decide +kernel
theorem dX0_highest_21 : decode cX0_highest 21 = .ok (.iload_n 3, 1) := by decide +kernel
theorem dX0_highest_22 : decode cX0_highest 22 = .ok (.istore_n 2, 1) := by decide +kernel
theorem dX0_highest_23 : decode cX0_highest 23 = .ok (.iinc 3 1, 3) := by decide +kernel
theorem dX0_highest_26 : decode cX0_highest 26 = .ok (.goto (-22), 3) := by decide +kernel
theorem dX0_highest_29 : decode cX0_highest 29 = .ok (.iload_n 2, 1) := by decide +kernel
theorem dX0_highest_30 : decode cX0_highest 30 = .ok (.ireturn, 1) := by decide +kernel
theorem dX0_saltiest_0 : decode cX0_saltiest 0 = .ok (.iconst (-1), 1) := by decide +kernel
theorem dX0_saltiest_1 : decode cX0_saltiest 1 = .ok (.istore_n 2, 1) := by decide +kernel
theorem dX0_saltiest_2 : decode cX0_saltiest 2 = .ok (.iconst 0, 1) := by decide +kernel
theorem dX0_saltiest_3 : decode cX0_saltiest 3 = .ok (.istore_n 3, 1) := by decide +kernel
theorem dX0_saltiest_4 : decode cX0_saltiest 4 = .ok (.iload_n 3, 1) := by decide +kernel
theorem dX0_saltiest_5 : decode cX0_saltiest 5 = .ok (.aload_n 0, 1) := by decide +kernel
theorem dX0_saltiest_6 : decode cX0_saltiest 6 = .ok (.getfield 49, 3) := by decide +kernel
theorem dX0_saltiest_9 : decode cX0_saltiest 9 = .ok (.if_icmp .ge 40, 3) := by decide +kernel
theorem dX0_saltiest_12 : decode cX0_saltiest 12 = .ok (.iload_n 1, 1) := by decide +kernel
theorem dX0_saltiest_13 : decode cX0_saltiest 13 = .ok (.iload_n 3, 1) := by decide +kernel
theorem dX0_saltiest_14 : decode cX0_saltiest 14 = .ok (.invokestatic 74, 3) := by decide +kernel
theorem dX0_saltiest_17 : decode cX0_saltiest 17 = .ok (.iconst 1, 1) := by decide +kernel
theorem dX0_saltiest_18 : decode cX0_saltiest 18 = .ok (.if_icmp .ne 25, 3) := by decide +kernel
theorem dX0_saltiest_21 : decode cX0_saltiest 21 = .ok (.iload_n 2, 1) := by decide +kernel
theorem dX0_saltiest_22 : decode cX0_saltiest 22 = .ok (.iconst (-1), 1) := by decide +kernel
theorem dX0_saltiest_23 : decode cX0_saltiest 23 = .ok (.if_icmp .eq 18, 3) := by decide +kernel
theorem dX0_saltiest_26 : decode cX0_saltiest 26 = .ok (.aload_n 0, 1) := by decide +kernel
theorem dX0_saltiest_27 : decode cX0_saltiest 27 = .ok (.getfield 33, 3) := by decide +kernel
theorem dX0_saltiest_30 : decode cX0_saltiest 30 = .ok (.iload_n 3, 1) := by decide +kernel
theorem dX0_saltiest_31 : decode cX0_saltiest 31 = .ok (.iaload, 1) := by decide +kernel
theorem dX0_saltiest_32 : decode cX0_saltiest 32 = .ok (.aload_n 0, 1) := by decide +kernel
theorem dX0_saltiest_33 : decode cX0_saltiest 33 = .ok (.getfield 33, 3) := by decide +kernel
theorem dX0_saltiest_36 : decode cX0_saltiest 36 = .ok (.iload_n 2, 1) := by decide +kernel
theorem dX0_saltiest_37 : decode cX0_saltiest 37 = .ok (.iaload, 1) := by decide +kernel
theorem dX0_saltiest_38 : decode cX0_saltiest 38 = .ok (.if_icmp .le 5, 3) := by decide +kernel
theorem dX0_saltiest_41 : decode cX0_saltiest 41 = .ok (.iload_n 3, 1) := by decide +kernel
theorem dX0_saltiest_42 : decode cX0_saltiest 42 = .ok (.istore_n 2, 1) := by decide +kernel
theorem dX0_saltiest_43 : decode cX0_saltiest 43 = .ok (.iinc 3 1, 3) := by decide +kernel
theorem dX0_saltiest_46 : decode cX0_saltiest 46 = .ok (.goto (-42), 3) := by decide +kernel
theorem dX0_saltiest_49 : decode cX0_saltiest 49 = .ok (.iload_n 2, 1) := by decide +kernel
theorem dX0_saltiest_50 : decode cX0_saltiest 50 = .ok (.ireturn, 1) := by decide +kernel
theorem dX1_init_0 : decode cX1_init 0 = .ok (.aload_n 0, 1) := by decide +kernel
theorem dX1_init_1 : decode cX1_init 1 = .ok (.invokespecial 3, 3) := by decide +kernel
theorem dX1_init_4 : decode cX1_init 4 = .ok (.aload_n 0, 1) := by decide +kernel
theorem dX1_init_5 : decode cX1_init 5 = .ok (.iconst 2, 1) := by decide +kernel
theorem dX1_init_6 : decode cX1_init 6 = .ok (.newarray .int, 2) := by decide +kernel
theorem dX1_init_8 : decode cX1_init 8 = .ok (.putfield 11, 3) := by decide +kernel
theorem dX1_init_11 : decode cX1_init 11 = .ok (.aload_n 0, 1) := by decide +kernel
theorem dX1_init_12 : decode cX1_init 12 = .ok (.bipush 32, 2) := by decide +kernel
theorem dX1_init_14 : decode cX1_init 14 = .ok (.newarray .int, 2) := by decide +kernel
theorem dX1_init_16 : decode cX1_init 16 = .ok (.putfield 15, 3) := by decide +kernel
theorem dX1_init_19 : decode cX1_init 19 = .ok (.aload_n 0, 1) := by decide +kernel
theorem dX1_init_20 : decode cX1_init 20 = .ok (.bipush 24, 2) := by decide +kernel
theorem dX1_init_22 : decode cX1_init 22 = .ok (.newarray .int, 2) := by decide +kernel
theorem dX1_init_24 : decode cX1_init 24 = .ok (.putfield 18, 3) := by decide +kernel
theorem dX1_init_27 : decode cX1_init 27 = .ok (.aload_n 0, 1) := by decide +kernel
theorem dX1_init_28 : decode cX1_init 28 = .ok (.aload_n 1, 1) := by decide +kernel
theorem dX1_init_29 : decode cX1_init 29 = .ok (.putfield 21, 3) := by decide +kernel
theorem dX1_init_32 : decode cX1_init 32 = .ok (.return_, 1) := by decide +kernel
theorem dX1_reads_0 : decode cX1_reads 0 = .ok (.aload_n 0, 1) := by decide +kernel
theorem dX1_reads_1 : decode cX1_reads 1 = .ok (.getfield 21, 3) := by decide +kernel
theorem dX1_reads_4 : decode cX1_reads 4 = .ok (.iconst 0, 1) := by decide +kernel
theorem dX1_reads_5 : decode cX1_reads 5 = .ok (.putfield 25, 3) := by decide +kernel
theorem dX1_reads_8 : decode cX1_reads 8 = .ok (.aload_n 0, 1) := by decide +kernel
theorem dX1_reads_9 : decode cX1_reads 9 = .ok (.iconst 0, 1) := by decide +kernel
theorem dX1_reads_10 : decode cX1_reads 10 = .ok (.putfield 31, 3) := by decide +kernel
theorem dX1_reads_13 : decode cX1_reads 13 = .ok (.aload_n 0, 1) := by decide +kernel
theorem dX1_reads_14 : decode cX1_reads 14 = .ok (.iconst 0, 1) := by decide +kernel
theorem dX1_reads_15 : decode cX1_reads 15 = .ok (.putfield 35, 3) := by decide +kernel
theorem dX1_reads_18 : decode cX1_reads 18 = .ok (.aload_n 0, 1) := by decide +kernel
theorem dX1_reads_19 : decode cX1_reads 19 = .ok (.iconst 0, 1) := by decide +kernel
theorem dX1_reads_20 : decode cX1_reads 20 = .ok (.putfield 38, 3) := by decide +kernel
theorem dX1_reads_23 : decode cX1_reads 23 = .ok (.aload_n 0, 1) := by decide +kernel
theorem dX1_reads_24 : decode cX1_reads 24 = .ok (.aload_n 0, 1) := by decide +kernel
theorem dX1_reads_25 : decode cX1_reads 25 = .ok (.getfield 11, 3) := by decide +kernel
theorem dX1_reads_28 : decode cX1_reads 28 = .ok (.iconst 0, 1) := by decide +kernel
theorem dX1_reads_29 : decode cX1_reads 29 = .ok (.iconst 0, 1) := by decide +kernel
theorem dX1_reads_30 : decode cX1_reads 30 = .ok (.iconst 2, 1) := by decide +kernel
theorem dX1_reads_31 : decode cX1_reads 31 = .ok (.invokevirtual 41, 3) := by decide +kernel
theorem dX1_reads_34 : decode cX1_reads 34 = .ok (.iconst 0, 1) := by decide +kernel
theorem dX1_reads_35 : decode cX1_reads 35 = .ok (.istore_n 1, 1) := by decide +kernel
theorem dX1_reads_36 : decode cX1_reads 36 = .ok (.iload_n 1, 1) := by decide +kernel
theorem dX1_reads_37 : decode cX1_reads 37 = .ok (.sipush 240, 3) := by decide +kernel
theorem dX1_reads_40 : decode cX1_reads 40 = .ok (.if_icmp .ge 33, 3) := by decide +kernel
theorem dX1_reads_43 : decode cX1_reads 43 = .ok (.aload_n 0, 1) := by decide +kernel
theorem dX1_reads_44 : decode cX1_reads 44 = .ok (.invokevirtual 45, 3) := by decide +kernel
theorem dX1_reads_47 : decode cX1_reads 47 = .ok (.ifCond .ne 5, 3) := by decide +kernel
theorem dX1_reads_50 : decode cX1_reads 50 = .ok (.iconst 0, 1) := by decide +kernel
theorem dX1_reads_51 : decode cX1_reads 51 = .ok (.ireturn, 1) := by decide +kernel
theorem dX1_reads_52 : decode cX1_reads 52 = .ok (.aload_n 0, 1) := by decide +kernel
theorem dX1_reads_53 : decode cX1_reads 53 = .ok (.getfield 21, 3) := by decide +kernel
theorem dX1_reads_56 : decode cX1_reads 56 = .ok (.bipush 59, 2) := by decide +kernel
theorem dX1_reads_58 : decode cX1_reads 58 = .ok (.invokevirtual 49, 3) := by decide +kernel
theorem dX1_reads_61 : decode cX1_reads 61 = .ok (.ifCond .ne 6, 3) := by decide +kernel
theorem dX1_reads_64 : decode cX1_reads 64 = .ok (.goto 9, 3) := by decide +kernel
theorem dX1_reads_67 : decode cX1_reads 67 = .ok (.iinc 1 1, 3) := by decide +kernel
theorem dX1_reads_70 : decode cX1_reads 70 = .ok (.goto (-34), 3) := by decide +kernel
theorem dX1_reads_73 : decode cX1_reads 73 = .ok (.aload_n 0, 1) := by decide +kernel
theorem dX1_reads_74 : decode cX1_reads 74 = .ok (.getfield 21, 3) := by decide +kernel
theorem dX1_reads_77 : decode cX1_reads 77 = .ok (.invokevirtual 53, 3) := by decide +kernel
theorem dX1_reads_80 : decode cX1_reads 80 = .ok (.iconst (-1), 1) := by decide +kernel
theorem dX1_reads_81 : decode cX1_reads 81 = .ok (.if_icmp .ne 14, 3) := by decide +kernel
theorem dX1_reads_84 : decode cX1_reads 84 = .ok (.aload_n 0, 1) := by decide +kernel
theorem dX1_reads_85 : decode cX1_reads 85 = .ok (.invokevirtual 57, 3) := by decide +kernel
theorem dX1_reads_88 : decode cX1_reads 88 = .ok (.ifCond .eq 7, 3) := by decide +kernel
theorem dX1_reads_91 : decode cX1_reads 91 = .ok (.iconst 1, 1) := by decide +kernel
theorem dX1_reads_92 : decode cX1_reads 92 = .ok (.goto 4, 3) := by decide +kernel
theorem dX1_reads_95 : decode cX1_reads 95 = .ok (.iconst 0, 1) := by decide +kernel
theorem dX1_reads_96 : decode cX1_reads 96 = .ok (.ireturn, 1) := by decide +kernel
theorem dX1_readsClause_0 : decode cX1_readsClause 0 = .ok (.aload_n 0, 1) := by decide +kernel
theorem dX1_readsClause_1 : decode cX1_readsClause 1 = .ok (.getfield 21, 3) := by decide +kernel
theorem dX1_readsClause_4 : decode cX1_readsClause 4 = .ok (.invokevirtual 53, 3) := by decide +kernel
theorem dX1_readsClause_7 : decode cX1_readsClause 7 = .ok (.istore_n 1, 1) := by decide +kernel
theorem dX1_readsClause_8 : decode cX1_readsClause 8 = .ok (.iload_n 1, 1) := by decide +kernel
theorem dX1_readsClause_9 : decode cX1_readsClause 9 = .ok (.bipush 115, 2) := by decide +kernel
theorem dX1_readsClause_11 : decode cX1_readsClause 11 = .ok (.if_icmp .ne 40, 3) := by decide +kernel
theorem dX1_readsClause_14 : decode cX1_readsClause 14 = .ok (.aload_n 0, 1) := by decide +kernel
theorem dX1_readsClause_15 : decode cX1_readsClause 15 = .ok (.getfield 31, 3) := by decide +kernel
theorem dX1_readsClause_18 : decode cX1_readsClause 18 = .ok (.ifCond .ne 33, 3) := by decide +kernel
theorem dX1_readsClause_21 : decode cX1_readsClause 21 = .ok (.aload_n 0, 1) := by decide +kernel
theorem dX1_readsClause_22 : decode cX1_readsClause 22 = .ok (.getfield 21, 3) := by decide +kernel
theorem dX1_readsClause_25 : decode cX1_readsClause 25 = .ok (.dup, 1) := by decide +kernel
theorem dX1_readsClause_26 : decode cX1_readsClause 26 = .ok (.getfield 25, 3) := by decide +kernel
theorem dX1_readsClause_29 : decode cX1_readsClause 29 = .ok (.iconst 1, 1) := by decide +kernel
theorem dX1_readsClause_30 : decode cX1_readsClause 30 = .ok (.iadd, 1) := by decide +kernel
theorem dX1_readsClause_31 : decode cX1_readsClause 31 = .ok (.putfield 25, 3) := by decide +kernel
theorem dX1_readsClause_34 : decode cX1_readsClause 34 = .ok (.aload_n 0, 1) := by decide +kernel
theorem dX1_readsClause_35 : decode cX1_readsClause 35 = .ok (.iconst 1, 1) := by decide +kernel
theorem dX1_readsClause_36 : decode cX1_readsClause 36 = .ok (.putfield 31, 3) := by decide +kernel
theorem dX1_readsClause_39 : decode cX1_readsClause 39 = .ok (.aload_n 0, 1) := by decide +kernel
theorem dX1_readsClause_40 : decode cX1_readsClause 40 = .ok (.aload_n 0, 1) := by decide +kernel
theorem dX1_readsClause_41 : decode cX1_readsClause 41 = .ok (.getfield 11, 3) := by decide +kernel
theorem dX1_readsClause_44 : decode cX1_readsClause 44 = .ok (.iconst 0, 1) := by decide +kernel
theorem dX1_readsClause_45 : decode cX1_readsClause 45 = .ok (.iconst 0, 1) := by decide +kernel
theorem dX1_readsClause_46 : decode cX1_readsClause 46 = .ok (.iconst 2, 1) := by decide +kernel
theorem dX1_readsClause_47 : decode cX1_readsClause 47 = .ok (.invokevirtual 60, 3) := by decide +kernel
theorem dX1_readsClause_50 : decode cX1_readsClause 50 = .ok (.ireturn, 1) := by decide +kernel
theorem dX1_readsClause_51 : decode cX1_readsClause 51 = .ok (.iload_n 1, 1) := by decide +kernel
theorem dX1_readsClause_52 : decode cX1_readsClause 52 = .ok (.bipush 104, 2) := by decide +kernel
theorem dX1_readsClause_54 : decode cX1_readsClause 54 = .ok (.if_icmp .ne 55, 3) := by decide +kernel
theorem dX1_readsClause_57 : decode cX1_readsClause 57 = .ok (.aload_n 0, 1) := by decide +kernel
theorem dX1_readsClause_58 : decode cX1_readsClause 58 = .ok (.getfield 35, 3) := by decide +kernel
theorem dX1_readsClause_61 : decode cX1_readsClause 61 = .ok (.bipush 8, 2) := by decide +kernel
theorem dX1_readsClause_63 : decode cX1_readsClause 63 = .ok (.if_icmp .ge 46, 3) := by decide +kernel
theorem dX1_readsClause_66 : decode cX1_readsClause 66 = .ok (.aload_n 0, 1) := by decide +kernel
theorem dX1_readsClause_67 : decode cX1_readsClause 67 = .ok (.getfield 21, 3) := by decide +kernel
theorem dX1_readsClause_70 : decode cX1_readsClause 70 = .ok (.dup, 1) := by decide +kernel
theorem dX1_readsClause_71 : decode cX1_readsClause 71 = .ok (.getfield 25, 3) := by decide +kernel
theorem dX1_readsClause_74 : decode cX1_readsClause 74 = .ok (.iconst 1, 1) := by decide +kernel
theorem dX1_readsClause_75 : decode cX1_readsClause 75 = .ok (.iadd, 1) := by decide +kernel
theorem dX1_readsClause_76 : decode cX1_readsClause 76 = .ok (.putfield 25, 3) := by decide +kernel
theorem dX1_readsClause_79 : decode cX1_readsClause 79 = .ok (.aload_n 0, 1) := by decide +kernel
theorem dX1_readsClause_80 : decode cX1_readsClause 80 = .ok (.dup, 1) := by decide +kernel
theorem dX1_readsClause_81 : decode cX1_readsClause 81 = .ok (.getfield 35, 3) := by decide +kernel
theorem dX1_readsClause_84 : decode cX1_readsClause 84 = .ok (.iconst 1, 1) := by decide +kernel
theorem dX1_readsClause_85 : decode cX1_readsClause 85 = .ok (.iadd, 1) := by decide +kernel
theorem dX1_readsClause_86 : decode cX1_readsClause 86 = .ok (.putfield 35, 3) := by decide +kernel
theorem dX1_readsClause_89 : decode cX1_readsClause 89 = .ok (.aload_n 0, 1) := by decide +kernel
theorem dX1_readsClause_90 : decode cX1_readsClause 90 = .ok (.aload_n 0, 1) := by decide +kernel
theorem dX1_readsClause_91 : decode cX1_readsClause 91 = .ok (.getfield 15, 3) := by decide +kernel
theorem dX1_readsClause_94 : decode cX1_readsClause 94 = .ok (.aload_n 0, 1) := by decide +kernel
theorem dX1_readsClause_95 : decode cX1_readsClause 95 = .ok (.getfield 35, 3) := by decide +kernel
theorem dX1_readsClause_98 : decode cX1_readsClause 98 = .ok (.iconst 1, 1) := by decide +kernel
theorem dX1_readsClause_99 : decode cX1_readsClause 99 = .ok (.isub, 1) := by decide +kernel
theorem dX1_readsClause_100 : decode cX1_readsClause 100 = .ok (.iconst 4, 1) := by decide +kernel
theorem dX1_readsClause_101 : decode cX1_readsClause 101 = .ok (.imul, 1) := by decide +kernel
theorem dX1_readsClause_102 : decode cX1_readsClause 102 = .ok (.iconst 2, 1) := by decide +kernel
theorem dX1_readsClause_103 : decode cX1_readsClause 103 = .ok (.bipush 6, 2) := by decide +kernel
theorem dX1_readsClause_105 : decode cX1_readsClause 105 = .ok (.invokevirtual 60, 3) := by decide +kernel
theorem dX1_readsClause_108 : decode cX1_readsClause 108 = .ok (.ireturn, 1) := by decide +kernel
theorem dX1_readsClause_109 : decode cX1_readsClause 109 = .ok (.iload_n 1, 1) := by decide +kernel
theorem dX1_readsClause_110 : decode cX1_readsClause 110 = .ok (.bipush 119, 2) := by decide +kernel
theorem dX1_readsClause_112 : decode cX1_readsClause 112 = .ok (.if_icmp .ne 58, 3) := by decide +kernel
theorem dX1_readsClause_115 : decode cX1_readsClause 115 = .ok (.aload_n 0, 1) := by decide +kernel
theorem dX1_readsClause_116 : decode cX1_readsClause 116 = .ok (.getfield 38, 3) := by decide +kernel
theorem dX1_readsClause_119 : decode cX1_readsClause 119 = .ok (.bipush 8, 2) := by decide +kernel
theorem dX1_readsClause_121 : decode cX1_readsClause 121 = .ok (.if_icmp .ge 49, 3) := by decide +kernel
theorem dX1_readsClause_124 : decode cX1_readsClause 124 = .ok (.aload_n 0, 1) := by decide +kernel
theorem dX1_readsClause_125 : decode cX1_readsClause 125 = .ok (.getfield 21, 3) := by decide +kernel
theorem dX1_readsClause_128 : decode cX1_readsClause 128 = .ok (.dup, 1) := by decide +kernel
theorem dX1_readsClause_129 : decode cX1_readsClause 129 = .ok (.getfield 25, 3) := by decide +kernel
theorem dX1_readsClause_132 : decode cX1_readsClause 132 = .ok (.iconst 1, 1) := by decide +kernel
theorem dX1_readsClause_133 : decode cX1_readsClause 133 = .ok (.iadd, 1) := by decide +kernel
theorem dX1_readsClause_134 : decode cX1_readsClause 134 = .ok (.putfield 25, 3) := by decide +kernel
theorem dX1_readsClause_137 : decode cX1_readsClause 137 = .ok (.aload_n 0, 1) := by decide +kernel
theorem dX1_readsClause_138 : decode cX1_readsClause 138 = .ok (.dup, 1) := by decide +kernel
theorem dX1_readsClause_139 : decode cX1_readsClause 139 = .ok (.getfield 38, 3) := by decide +kernel
theorem dX1_readsClause_142 : decode cX1_readsClause 142 = .ok (.iconst 1, 1) := by decide +kernel
theorem dX1_readsClause_143 : decode cX1_readsClause 143 = .ok (.iadd, 1) := by decide +kernel
theorem dX1_readsClause_144 : decode cX1_readsClause 144 = .ok (.putfield 38, 3) := by decide +kernel
theorem dX1_readsClause_147 : decode cX1_readsClause 147 = .ok (.aload_n 0, 1) := by decide +kernel
theorem dX1_readsClause_148 : decode cX1_readsClause 148 = .ok (.aload_n 0, 1) := by decide +kernel
theorem dX1_readsClause_149 : decode cX1_readsClause 149 = .ok (.getfield 18, 3) := by decide +kernel
theorem dX1_readsClause_152 : decode cX1_readsClause 152 = .ok (.aload_n 0, 1) := by decide +kernel
theorem dX1_readsClause_153 : decode cX1_readsClause 153 = .ok (.getfield 38, 3) := by decide +kernel
theorem dX1_readsClause_156 : decode cX1_readsClause 156 = .ok (.iconst 1, 1) := by decide +kernel
theorem dX1_readsClause_157 : decode cX1_readsClause 157 = .ok (.isub, 1) := by decide +kernel
theorem dX1_readsClause_158 : decode cX1_readsClause 158 = .ok (.iconst 3, 1) := by decide +kernel
theorem dX1_readsClause_159 : decode cX1_readsClause 159 = .ok (.imul, 1) := by decide +kernel
theorem dX1_readsClause_160 : decode cX1_readsClause 160 = .ok (.bipush 6, 2) := by decide +kernel
theorem dX1_readsClause_162 : decode cX1_readsClause 162 = .ok (.getstatic 64, 3) := by decide +kernel
theorem dX1_readsClause_165 : decode cX1_readsClause 165 = .ok (.arraylength, 1) := by decide +kernel
theorem dX1_readsClause_166 : decode cX1_readsClause 166 = .ok (.invokevirtual 60, 3) := by decide +kernel
theorem dX1_readsClause_169 : decode cX1_readsClause 169 = .ok (.ireturn, 1) := by decide +kernel
theorem dX1_readsClause_170 : decode cX1_readsClause 170 = .ok (.iconst 0, 1) := by decide +kernel
theorem dX1_readsClause_171 : decode cX1_readsClause 171 = .ok (.ireturn, 1) := by decide +kernel
theorem dX1_setWithout_0 : decode cX1_setWithout 0 = .ok (.iload_n 3, 1) := by decide +kernel
theorem dX1_setWithout_1 : decode cX1_setWithout 1 = .ok (.istore 5, 2) := by decide +kernel
theorem dX1_setWithout_3 : decode cX1_setWithout 3 = .ok (.iload 5, 2) := by decide +kernel
theorem dX1_setWithout_5 : decode cX1_setWithout 5 = .ok (.iload 4, 2) := by decide +kernel
theorem dX1_setWithout_7 : decode cX1_setWithout 7 = .ok (.if_icmp .ge 23, 3) := by decide +kernel
theorem dX1_setWithout_10 : decode cX1_setWithout 10 = .ok (.aload_n 1, 1) := by decide +kernel
theorem dX1_setWithout_11 : decode cX1_setWithout 11 = .ok (.iload_n 2, 1) := by decide +kernel
theorem dX1_setWithout_12 : decode cX1_setWithout 12 = .ok (.iload 5, 2) := by decide +kernel
theorem dX1_setWithout_14 : decode cX1_setWithout 14 = .ok (.iadd, 1) := by decide +kernel
theorem dX1_setWithout_15 : decode cX1_setWithout 15 = .ok (.iload_n 3, 1) := by decide +kernel
theorem dX1_setWithout_16 : decode cX1_setWithout 16 = .ok (.isub, 1) := by decide +kernel
theorem dX1_setWithout_17 : decode cX1_setWithout 17 = .ok (.getstatic 68, 3) := by decide +kernel
theorem dX1_setWithout_20 : decode cX1_setWithout 20 = .ok (.iload 5, 2) := by decide +kernel
theorem dX1_setWithout_22 : decode cX1_setWithout 22 = .ok (.iaload, 1) := by decide +kernel
theorem dX1_setWithout_23 : decode cX1_setWithout 23 = .ok (.iastore, 1) := by decide +kernel
theorem dX1_setWithout_24 : decode cX1_setWithout 24 = .ok (.iinc 5 1, 3) := by decide +kernel
theorem dX1_setWithout_27 : decode cX1_setWithout 27 = .ok (.goto (-24), 3) := by decide +kernel
theorem dX1_setWithout_30 : decode cX1_setWithout 30 = .ok (.return_, 1) := by decide +kernel
theorem dX1_readsItems_0 : decode cX1_readsItems 0 = .ok (.aload_n 0, 1) := by decide +kernel
theorem dX1_readsItems_1 : decode cX1_readsItems 1 = .ok (.aload_n 1, 1) := by decide +kernel
theorem dX1_readsItems_2 : decode cX1_readsItems 2 = .ok (.iload_n 2, 1) := by decide +kernel
theorem dX1_readsItems_3 : decode cX1_readsItems 3 = .ok (.iload_n 3, 1) := by decide +kernel
theorem dX1_readsItems_4 : decode cX1_readsItems 4 = .ok (.iload 4, 2) := by decide +kernel
theorem dX1_readsItems_6 : decode cX1_readsItems 6 = .ok (.invokevirtual 41, 3) := by decide +kernel
theorem dX1_readsItems_9 : decode cX1_readsItems 9 = .ok (.iconst 0, 1) := by decide +kernel
theorem dX1_readsItems_10 : decode cX1_readsItems 10 = .ok (.istore 5, 2) := by decide +kernel
theorem dX1_readsItems_12 : decode cX1_readsItems 12 = .ok (.iload_n 3, 1) := by decide +kernel
theorem dX1_readsItems_13 : decode cX1_readsItems 13 = .ok (.istore 6, 2) := by decide +kernel
theorem dX1_readsItems_15 : decode cX1_readsItems 15 = .ok (.iload 6, 2) := by decide +kernel
theorem dX1_readsItems_17 : decode cX1_readsItems 17 = .ok (.iload 4, 2) := by decide +kernel
theorem dX1_readsItems_19 : decode cX1_readsItems 19 = .ok (.if_icmp .gt 87, 3) := by decide +kernel
theorem dX1_readsItems_22 : decode cX1_readsItems 22 = .ok (.aload_n 0, 1) := by decide +kernel
theorem dX1_readsItems_23 : decode cX1_readsItems 23 = .ok (.iload_n 3, 1) := by decide +kernel
theorem dX1_readsItems_24 : decode cX1_readsItems 24 = .ok (.iload 4, 2) := by decide +kernel
theorem dX1_readsItems_26 : decode cX1_readsItems 26 = .ok (.invokevirtual 71, 3) := by decide +kernel
theorem dX1_readsItems_29 : decode cX1_readsItems 29 = .ok (.istore 7, 2) := by decide +kernel
theorem dX1_readsItems_31 : decode cX1_readsItems 31 = .ok (.iload 7, 2) := by decide +kernel
theorem dX1_readsItems_33 : decode cX1_readsItems 33 = .ok (.iconst (-1), 1) := by decide +kernel
theorem dX1_readsItems_34 : decode cX1_readsItems 34 = .ok (.if_icmp .ne 5, 3) := by decide +kernel
theorem dX1_readsItems_37 : decode cX1_readsItems 37 = .ok (.iconst 1, 1) := by decide +kernel
theorem dX1_readsItems_38 : decode cX1_readsItems 38 = .ok (.ireturn, 1) := by decide +kernel
theorem dX1_readsItems_39 : decode cX1_readsItems 39 = .ok (.iload 5, 2) := by decide +kernel
theorem dX1_readsItems_41 : decode cX1_readsItems 41 = .ok (.iload 7, 2) := by decide +kernel
theorem dX1_readsItems_43 : decode cX1_readsItems 43 = .ok (.invokestatic 75, 3) := by decide +kernel
theorem dX1_readsItems_46 : decode cX1_readsItems 46 = .ok (.iconst 1, 1) := by decide +kernel
theorem dX1_readsItems_47 : decode cX1_readsItems 47 = .ok (.if_icmp .ne 5, 3) := by decide +kernel
theorem dX1_readsItems_50 : decode cX1_readsItems 50 = .ok (.iconst 0, 1) := by decide +kernel
theorem dX1_readsItems_51 : decode cX1_readsItems 51 = .ok (.ireturn, 1) := by decide +kernel
theorem dX1_readsItems_52 : decode cX1_readsItems 52 = .ok (.iload 5, 2) := by decide +kernel
theorem dX1_readsItems_54 : decode cX1_readsItems 54 = .ok (.iconst 1, 1) := by decide +kernel
theorem dX1_readsItems_55 : decode cX1_readsItems 55 = .ok (.iload 7, 2) := by decide +kernel
theorem dX1_readsItems_57 : decode cX1_readsItems 57 = .ok (.ishl, 1) := by decide +kernel
theorem dX1_readsItems_58 : decode cX1_readsItems 58 = .ok (.ior, 1) := by decide +kernel
theorem dX1_readsItems_59 : decode cX1_readsItems 59 = .ok (.istore 5, 2) := by decide +kernel
theorem dX1_readsItems_61 : decode cX1_readsItems 61 = .ok (.aload_n 0, 1) := by decide +kernel
theorem dX1_readsItems_62 : decode cX1_readsItems 62 = .ok (.getfield 21, 3) := by decide +kernel
theorem dX1_readsItems_65 : decode cX1_readsItems 65 = .ok (.dup, 1) := by decide +kernel
theorem dX1_readsItems_66 : decode cX1_readsItems 66 = .ok (.getfield 25, 3) := by decide +kernel
theorem dX1_readsItems_69 : decode cX1_readsItems 69 = .ok (.iconst 1, 1) := by decide +kernel
theorem dX1_readsItems_70 : decode cX1_readsItems 70 = .ok (.iadd, 1) := by decide +kernel
theorem dX1_readsItems_71 : decode cX1_readsItems 71 = .ok (.putfield 25, 3) := by decide +kernel
theorem dX1_readsItems_74 : decode cX1_readsItems 74 = .ok (.aload_n 0, 1) := by decide +kernel
theorem dX1_readsItems_75 : decode cX1_readsItems 75 = .ok (.iload 7, 2) := by decide +kernel
theorem dX1_readsItems_77 : decode cX1_readsItems 77 = .ok (.invokevirtual 78, 3) := by decide +kernel
theorem dX1_readsItems_80 : decode cX1_readsItems 80 = .ok (.ifCond .ne 5, 3) := by decide +kernel
theorem dX1_readsItems_83 : decode cX1_readsItems 83 = .ok (.iconst 0, 1) := by decide +kernel
theorem dX1_readsItems_84 : decode cX1_readsItems 84 = .ok (.ireturn, 1) := by decide +kernel
theorem dX1_readsItems_85 : decode cX1_readsItems 85 = .ok (.aload_n 1, 1) := by decide +kernel
theorem dX1_readsItems_86 : decode cX1_readsItems 86 = .ok (.iload_n 2, 1) := by decide +kernel
theorem dX1_readsItems_87 : decode cX1_readsItems 87 = .ok (.iload 7, 2) := by decide +kernel
theorem dX1_readsItems_89 : decode cX1_readsItems 89 = .ok (.iadd, 1) := by decide +kernel
theorem dX1_readsItems_90 : decode cX1_readsItems 90 = .ok (.iload_n 3, 1) := by decide +kernel
theorem dX1_readsItems_91 : decode cX1_readsItems 91 = .ok (.isub, 1) := by decide +kernel
theorem dX1_readsItems_92 : decode cX1_readsItems 92 = .ok (.aload_n 0, 1) := by decide +kernel
theorem dX1_readsItems_93 : decode cX1_readsItems 93 = .ok (.getfield 21, 3) := by decide +kernel
theorem dX1_readsItems_96 : decode cX1_readsItems 96 = .ok (.getfield 81, 3) := by decide +kernel
theorem dX1_readsItems_99 : decode cX1_readsItems 99 = .ok (.iastore, 1) := by decide +kernel
theorem dX1_readsItems_100 : decode cX1_readsItems 100 = .ok (.iinc 6 1, 3) := by decide +kernel
theorem dX1_readsItems_103 : decode cX1_readsItems 103 = .ok (.goto (-88), 3) := by decide +kernel
theorem dX1_readsItems_106 : decode cX1_readsItems 106 = .ok (.iconst 1, 1) := by decide +kernel
theorem dX1_readsItems_107 : decode cX1_readsItems 107 = .ok (.ireturn, 1) := by decide +kernel
theorem dX1_itemAt_0 : decode cX1_itemAt 0 = .ok (.aload_n 0, 1) := by decide +kernel
theorem dX1_itemAt_1 : decode cX1_itemAt 1 = .ok (.getfield 21, 3) := by decide +kernel
theorem dX1_itemAt_4 : decode cX1_itemAt 4 = .ok (.invokevirtual 53, 3) := by decide +kernel
theorem dX1_itemAt_7 : decode cX1_itemAt 7 = .ok (.istore_n 3, 1) := by decide +kernel
theorem dX1_itemAt_8 : decode cX1_itemAt 8 = .ok (.iload_n 1, 1) := by decide +kernel
theorem dX1_itemAt_9 : decode cX1_itemAt 9 = .ok (.istore 4, 2) := by decide +kernel
theorem dX1_itemAt_11 : decode cX1_itemAt 11 = .ok (.iload 4, 2) := by decide +kernel
theorem dX1_itemAt_13 : decode cX1_itemAt 13 = .ok (.iload_n 2, 1) := by decide +kernel
theorem dX1_itemAt_14 : decode cX1_itemAt 14 = .ok (.if_icmp .ge 22, 3) := by decide +kernel
theorem dX1_itemAt_17 : decode cX1_itemAt 17 = .ok (.getstatic 64, 3) := by decide +kernel
theorem dX1_itemAt_20 : decode cX1_itemAt 20 = .ok (.iload 4, 2) := by decide +kernel
theorem dX1_itemAt_22 : decode cX1_itemAt 22 = .ok (.caload, 1) := by decide +kernel
theorem dX1_itemAt_23 : decode cX1_itemAt 23 = .ok (.iload_n 3, 1) := by decide +kernel
theorem dX1_itemAt_24 : decode cX1_itemAt 24 = .ok (.if_icmp .ne 6, 3) := by decide +kernel
theorem dX1_itemAt_27 : decode cX1_itemAt 27 = .ok (.iload 4, 2) := by decide +kernel
theorem dX1_itemAt_29 : decode cX1_itemAt 29 = .ok (.ireturn, 1) := by decide +kernel
theorem dX1_itemAt_30 : decode cX1_itemAt 30 = .ok (.iinc 4 1, 3) := by decide +kernel
theorem dX1_itemAt_33 : decode cX1_itemAt 33 = .ok (.goto (-22), 3) := by decide +kernel
theorem dX1_itemAt_36 : decode cX1_itemAt 36 = .ok (.iconst (-1), 1) := by decide +kernel
theorem dX1_itemAt_37 : decode cX1_itemAt 37 = .ok (.ireturn, 1) := by decide +kernel
theorem dX1_readsNumberOf_0 : decode cX1_readsNumberOf 0 = .ok (.aload_n 0, 1) := by decide +kernel
theorem dX1_readsNumberOf_1 : decode cX1_readsNumberOf 1 = .ok (.getfield 21, 3) := by decide +kernel
theorem dX1_readsNumberOf_4 : decode cX1_readsNumberOf 4 = .ok (.iconst 2, 1) := by decide +kernel
theorem dX1_readsNumberOf_5 : decode cX1_readsNumberOf 5 = .ok (.invokevirtual 84, 3) := by decide +kernel
theorem dX1_readsNumberOf_8 : decode cX1_readsNumberOf 8 = .ok (.ifCond .ne 5, 3) := by decide +kernel
theorem dX1_readsNumberOf_11 : decode cX1_readsNumberOf 11 = .ok (.iconst 0, 1) := by decide +kernel
theorem dX1_readsNumberOf_12 : decode cX1_readsNumberOf 12 = .ok (.ireturn, 1) := by decide +kernel
theorem dX1_readsNumberOf_13 : decode cX1_readsNumberOf 13 = .ok (.aload_n 0, 1) := by decide +kernel
theorem dX1_readsNumberOf_14 : decode cX1_readsNumberOf 14 = .ok (.getfield 21, 3) := by decide +kernel
theorem dX1_readsNumberOf_17 : decode cX1_readsNumberOf 17 = .ok (.getfield 81, 3) := by decide +kernel
theorem dX1_readsNumberOf_20 : decode cX1_readsNumberOf 20 = .ok (.getstatic 87, 3) := by decide +kernel
theorem dX1_readsNumberOf_23 : decode cX1_readsNumberOf 23 = .ok (.iload_n 1, 1) := by decide +kernel
theorem dX1_readsNumberOf_24 : decode cX1_readsNumberOf 24 = .ok (.iaload, 1) := by decide +kernel
theorem dX1_readsNumberOf_25 : decode cX1_readsNumberOf 25 = .ok (.if_icmp .lt 18, 3) := by decide +kernel
theorem dX1_readsNumberOf_28 : decode cX1_readsNumberOf 28 = .ok (.aload_n 0, 1) := by decide +kernel
theorem dX1_readsNumberOf_29 : decode cX1_readsNumberOf 29 = .ok (.getfield 21, 3) := by decide +kernel
theorem dX1_readsNumberOf_32 : decode cX1_readsNumberOf 32 = .ok (.getfield 81, 3) := by decide +kernel
theorem dX1_readsNumberOf_35 : decode cX1_readsNumberOf 35 = .ok (.getstatic 90, 3) := by decide +kernel
theorem dX1_readsNumberOf_38 : decode cX1_readsNumberOf 38 = .ok (.iload_n 1, 1) := by decide +kernel
theorem dX1_readsNumberOf_39 : decode cX1_readsNumberOf 39 = .ok (.iaload, 1) := by decide +kernel
theorem dX1_readsNumberOf_40 : decode cX1_readsNumberOf 40 = .ok (.if_icmp .le 18, 3) := by decide +kernel
theorem dX1_readsNumberOf_43 : decode cX1_readsNumberOf 43 = .ok (.aload_n 0, 1) := by decide +kernel
theorem dX1_readsNumberOf_44 : decode cX1_readsNumberOf 44 = .ok (.getfield 21, 3) := by decide +kernel
theorem dX1_readsNumberOf_47 : decode cX1_readsNumberOf 47 = .ok (.dup, 1) := by decide +kernel
theorem dX1_readsNumberOf_48 : decode cX1_readsNumberOf 48 = .ok (.getfield 25, 3) := by decide +kernel
theorem dX1_readsNumberOf_51 : decode cX1_readsNumberOf 51 = .ok (.iconst 1, 1) := by decide +kernel
theorem dX1_readsNumberOf_52 : decode cX1_readsNumberOf 52 = .ok (.isub, 1) := by decide +kernel
theorem dX1_readsNumberOf_53 : decode cX1_readsNumberOf 53 = .ok (.putfield 25, 3) := by decide +kernel
theorem dX1_readsNumberOf_56 : decode cX1_readsNumberOf 56 = .ok (.iconst 0, 1) := by decide +kernel
theorem dX1_readsNumberOf_57 : decode cX1_readsNumberOf 57 = .ok (.ireturn, 1) := by decide +kernel
theorem dX1_readsNumberOf_58 : decode cX1_readsNumberOf 58 = .ok (.iconst 1, 1) := by decide +kernel
theorem dX1_readsNumberOf_59 : decode cX1_readsNumberOf 59 = .ok (.ireturn, 1) := by decide +kernel
theorem dX1_isWhole_0 : decode cX1_isWhole 0 = .ok (.aload_n 0, 1) := by decide +kernel
theorem dX1_isWhole_1 : decode cX1_isWhole 1 = .ok (.getfield 35, 3) := by decide +kernel
theorem dX1_isWhole_4 : decode cX1_isWhole 4 = .ok (.iconst 2, 1) := by decide +kernel
theorem dX1_isWhole_5 : decode cX1_isWhole 5 = .ok (.if_icmp .ge 5, 3) := by decide +kernel
theorem dX1_isWhole_8 : decode cX1_isWhole 8 = .ok (.iconst 0, 1) := by decide +kernel
theorem dX1_isWhole_9 : decode cX1_isWhole 9 = .ok (.ireturn, 1) := by decide +kernel
theorem dX1_isWhole_10 : decode cX1_isWhole 10 = .ok (.iconst 0, 1) := by decide +kernel
theorem dX1_isWhole_11 : decode cX1_isWhole 11 = .ok (.istore_n 1, 1) := by decide +kernel
theorem dX1_isWhole_12 : decode cX1_isWhole 12 = .ok (.iload_n 1, 1) := by decide +kernel
theorem dX1_isWhole_13 : decode cX1_isWhole 13 = .ok (.aload_n 0, 1) := by decide +kernel
theorem dX1_isWhole_14 : decode cX1_isWhole 14 = .ok (.getfield 38, 3) := by decide +kernel
theorem dX1_isWhole_17 : decode cX1_isWhole 17 = .ok (.if_icmp .ge 19, 3) := by decide +kernel
theorem dX1_isWhole_20 : decode cX1_isWhole 20 = .ok (.aload_n 0, 1) := by decide +kernel
theorem dX1_isWhole_21 : decode cX1_isWhole 21 = .ok (.iload_n 1, 1) := by decide +kernel
theorem dX1_isWhole_22 : decode cX1_isWhole 22 = .ok (.invokevirtual 93, 3) := by decide +kernel
theorem dX1_isWhole_25 : decode cX1_isWhole 25 = .ok (.ifCond .ne 5, 3) := by decide +kernel
theorem dX1_isWhole_28 : decode cX1_isWhole 28 = .ok (.iconst 0, 1) := by decide +kernel
theorem dX1_isWhole_29 : decode cX1_isWhole 29 = .ok (.ireturn, 1) := by decide +kernel
theorem dX1_isWhole_30 : decode cX1_isWhole 30 = .ok (.iinc 1 1, 3) := by decide +kernel
theorem dX1_isWhole_33 : decode cX1_isWhole 33 = .ok (.goto (-21), 3) := by decide +kernel
theorem dX1_isWhole_36 : decode cX1_isWhole 36 = .ok (.iconst 1, 1) := by decide +kernel
theorem dX1_isWhole_37 : decode cX1_isWhole 37 = .ok (.ireturn, 1) := by decide +kernel
theorem dX1_isWireSound_0 : decode cX1_isWireSound 0 = .ok (.aload_n 0, 1) := by decide +kernel
theorem dX1_isWireSound_1 : decode cX1_isWireSound 1 = .ok (.getfield 18, 3) := by decide +kernel
theorem dX1_isWireSound_4 : decode cX1_isWireSound 4 = .ok (.iload_n 1, 1) := by decide +kernel
theorem dX1_isWireSound_5 : decode cX1_isWireSound 5 = .ok (.iconst 3, 1) := by decide +kernel
theorem dX1_isWireSound_6 : decode cX1_isWireSound 6 = .ok (.imul, 1) := by decide +kernel
theorem dX1_isWireSound_7 : decode cX1_isWireSound 7 = .ok (.iaload, 1) := by decide +kernel
theorem dX1_isWireSound_8 : decode cX1_isWireSound 8 = .ok (.istore_n 2, 1) := by decide +kernel
theorem dX1_isWireSound_9 : decode cX1_isWireSound 9 = .ok (.aload_n 0, 1) := by decide +kernel
theorem dX1_isWireSound_10 : decode cX1_isWireSound 10 = .ok (.getfield 18, 3) := by decide +kernel
theorem dX1_isWireSound_13 : decode cX1_isWireSound 13 = .ok (.iload_n 1, 1) := by decide +kernel
theorem dX1_isWireSound_14 : decode cX1_isWireSound 14 = .ok (.iconst 3, 1) := by decide +kernel
theorem dX1_isWireSound_15 : decode cX1_isWireSound 15 = .ok (.imul, 1) := by decide +kernel
theorem dX1_isWireSound_16 : decode cX1_isWireSound 16 = .ok (.iconst 1, 1) := by decide +kernel
theorem dX1_isWireSound_17 : decode cX1_isWireSound 17 = .ok (.iadd, 1) := by decide +kernel
theorem dX1_isWireSound_18 : decode cX1_isWireSound 18 = .ok (.iaload, 1) := by decide +kernel
theorem dX1_isWireSound_19 : decode cX1_isWireSound 19 = .ok (.istore_n 3, 1) := by decide +kernel
theorem dX1_isWireSound_20 : decode cX1_isWireSound 20 = .ok (.iload_n 2, 1) := by decide +kernel
theorem dX1_isWireSound_21 : decode cX1_isWireSound 21 = .ok (.aload_n 0, 1) := by decide +kernel
theorem dX1_isWireSound_22 : decode cX1_isWireSound 22 = .ok (.getfield 35, 3) := by decide +kernel
theorem dX1_isWireSound_25 : decode cX1_isWireSound 25 = .ok (.if_icmp .ge 32, 3) := by decide +kernel
theorem dX1_isWireSound_28 : decode cX1_isWireSound 28 = .ok (.iload_n 3, 1) := by decide +kernel
theorem dX1_isWireSound_29 : decode cX1_isWireSound 29 = .ok (.aload_n 0, 1) := by decide +kernel
theorem dX1_isWireSound_30 : decode cX1_isWireSound 30 = .ok (.getfield 35, 3) := by decide +kernel
theorem dX1_isWireSound_33 : decode cX1_isWireSound 33 = .ok (.if_icmp .ge 24, 3) := by decide +kernel
theorem dX1_isWireSound_36 : decode cX1_isWireSound 36 = .ok (.iload_n 2, 1) := by decide +kernel
theorem dX1_isWireSound_37 : decode cX1_isWireSound 37 = .ok (.iload_n 3, 1) := by decide +kernel
theorem dX1_isWireSound_38 : decode cX1_isWireSound 38 = .ok (.if_icmp .eq 19, 3) := by decide +kernel
theorem dX1_isWireSound_41 : decode cX1_isWireSound 41 = .ok (.aload_n 0, 1) := by decide +kernel
theorem dX1_isWireSound_42 : decode cX1_isWireSound 42 = .ok (.iload_n 2, 1) := by decide +kernel
theorem dX1_isWireSound_43 : decode cX1_isWireSound 43 = .ok (.invokevirtual 96, 3) := by decide +kernel
theorem dX1_isWireSound_46 : decode cX1_isWireSound 46 = .ok (.ifCond .eq 13, 3) := by decide +kernel
theorem dX1_isWireSound_49 : decode cX1_isWireSound 49 = .ok (.aload_n 0, 1) := by decide +kernel
theorem dX1_isWireSound_50 : decode cX1_isWireSound 50 = .ok (.iload_n 3, 1) := by decide +kernel
theorem dX1_isWireSound_51 : decode cX1_isWireSound 51 = .ok (.invokevirtual 96, 3) := by decide +kernel
theorem dX1_isWireSound_54 : decode cX1_isWireSound 54 = .ok (.ifCond .eq 5, 3) := by decide +kernel
theorem dX1_isWireSound_57 : decode cX1_isWireSound 57 = .ok (.iconst 0, 1) := by decide +kernel
theorem dX1_isWireSound_58 : decode cX1_isWireSound 58 = .ok (.ireturn, 1) := by decide +kernel
theorem dX1_isWireSound_59 : decode cX1_isWireSound 59 = .ok (.iconst 0, 1) := by decide +kernel
theorem dX1_isWireSound_60 : decode cX1_isWireSound 60 = .ok (.istore 4, 2) := by decide +kernel
theorem dX1_isWireSound_62 : decode cX1_isWireSound 62 = .ok (.iload 4, 2) := by decide +kernel
theorem dX1_isWireSound_64 : decode cX1_isWireSound 64 = .ok (.iload_n 1, 1) := by decide +kernel
theorem dX1_isWireSound_65 : decode cX1_isWireSound 65 = .ok (.if_icmp .ge 59, 3) := by decide +kernel
theorem dX1_isWireSound_68 : decode cX1_isWireSound 68 = .ok (.aload_n 0, 1) := by decide +kernel
theorem dX1_isWireSound_69 : decode cX1_isWireSound 69 = .ok (.getfield 18, 3) := by decide +kernel
theorem dX1_isWireSound_72 : decode cX1_isWireSound 72 = .ok (.iload 4, 2) := by decide +kernel
theorem dX1_isWireSound_74 : decode cX1_isWireSound 74 = .ok (.iconst 3, 1) := by decide +kernel
theorem dX1_isWireSound_75 : decode cX1_isWireSound 75 = .ok (.imul, 1) := by decide +kernel
theorem dX1_isWireSound_76 : decode cX1_isWireSound 76 = .ok (.iaload, 1) := by decide +kernel
theorem dX1_isWireSound_77 : decode cX1_isWireSound 77 = .ok (.istore 5, 2) := by decide +kernel
theorem dX1_isWireSound_79 : decode cX1_isWireSound 79 = .ok (.aload_n 0, 1) := by decide +kernel
theorem dX1_isWireSound_80 : decode cX1_isWireSound 80 = .ok (.getfield 18, 3) := by decide +kernel
theorem dX1_isWireSound_83 : decode cX1_isWireSound 83 = .ok (.iload 4, 2) := by decide +kernel
theorem dX1_isWireSound_85 : decode cX1_isWireSound 85 = .ok (.iconst 3, 1) := by decide +kernel
theorem dX1_isWireSound_86 : decode cX1_isWireSound 86 = .ok (.imul, 1) := by decide +kernel
theorem dX1_isWireSound_87 : decode cX1_isWireSound 87 = .ok (.iconst 1, 1) := by decide +kernel
theorem dX1_isWireSound_88 : decode cX1_isWireSound 88 = .ok (.iadd, 1) := by decide +kernel
theorem dX1_isWireSound_89 : decode cX1_isWireSound 89 = .ok (.iaload, 1) := by decide +kernel
theorem dX1_isWireSound_90 : decode cX1_isWireSound 90 = .ok (.istore 6, 2) := by decide +kernel
theorem dX1_isWireSound_92 : decode cX1_isWireSound 92 = .ok (.iload_n 2, 1) := by decide +kernel
theorem dX1_isWireSound_93 : decode cX1_isWireSound 93 = .ok (.iload 5, 2) := by decide +kernel
theorem dX1_isWireSound_95 : decode cX1_isWireSound 95 = .ok (.if_icmp .ne 9, 3) := by decide +kernel
theorem dX1_isWireSound_98 : decode cX1_isWireSound 98 = .ok (.iload_n 3, 1) := by decide +kernel
theorem dX1_isWireSound_99 : decode cX1_isWireSound 99 = .ok (.iload 6, 2) := by decide +kernel
theorem dX1_isWireSound_101 : decode cX1_isWireSound 101 = .ok (.if_icmp .eq 15, 3) := by decide +kernel
theorem dX1_isWireSound_104 : decode cX1_isWireSound 104 = .ok (.iload_n 2, 1) := by decide +kernel
theorem dX1_isWireSound_105 : decode cX1_isWireSound 105 = .ok (.iload 6, 2) := by decide +kernel
theorem dX1_isWireSound_107 : decode cX1_isWireSound 107 = .ok (.if_icmp .ne 11, 3) := by decide +kernel
theorem dX1_isWireSound_110 : decode cX1_isWireSound 110 = .ok (.iload_n 3, 1) := by decide +kernel
theorem dX1_isWireSound_111 : decode cX1_isWireSound 111 = .ok (.iload 5, 2) := by decide +kernel
theorem dX1_isWireSound_113 : decode cX1_isWireSound 113 = .ok (.if_icmp .ne 5, 3) := by decide +kernel
theorem dX1_isWireSound_116 : decode cX1_isWireSound 116 = .ok (.iconst 0, 1) := by decide +kernel
theorem dX1_isWireSound_117 : decode cX1_isWireSound 117 = .ok (.ireturn, 1) := by decide +kernel
theorem dX1_isWireSound_118 : decode cX1_isWireSound 118 = .ok (.iinc 4 1, 3) := by decide +kernel
theorem dX1_isWireSound_121 : decode cX1_isWireSound 121 = .ok (.goto (-59), 3) := by decide +kernel
theorem dX1_isWireSound_124 : decode cX1_isWireSound 124 = .ok (.iconst 1, 1) := by decide +kernel
theorem dX1_isWireSound_125 : decode cX1_isWireSound 125 = .ok (.ireturn, 1) := by decide +kernel
theorem dX1_isChapel_0 : decode cX1_isChapel 0 = .ok (.aload_n 0, 1) := by decide +kernel
theorem dX1_isChapel_1 : decode cX1_isChapel 1 = .ok (.getfield 15, 3) := by decide +kernel
theorem dX1_isChapel_4 : decode cX1_isChapel 4 = .ok (.iload_n 1, 1) := by decide +kernel
theorem dX1_isChapel_5 : decode cX1_isChapel 5 = .ok (.iconst 4, 1) := by decide +kernel
theorem dX1_isChapel_6 : decode cX1_isChapel 6 = .ok (.imul, 1) := by decide +kernel
theorem dX1_isChapel_7 : decode cX1_isChapel 7 = .ok (.iconst 3, 1) := by decide +kernel
theorem dX1_isChapel_8 : decode cX1_isChapel 8 = .ok (.iadd, 1) := by decide +kernel
theorem dX1_isChapel_9 : decode cX1_isChapel 9 = .ok (.iaload, 1) := by decide +kernel
theorem dX1_isChapel_10 : decode cX1_isChapel 10 = .ok (.iconst 2, 1) := by decide +kernel
theorem dX1_isChapel_11 : decode cX1_isChapel 11 = .ok (.if_icmp .ne 7, 3) := by decide +kernel
theorem dX1_isChapel_14 : decode cX1_isChapel 14 = .ok (.iconst 1, 1) := by decide +kernel
theorem dX1_isChapel_15 : decode cX1_isChapel 15 = .ok (.goto 4, 3) := by decide +kernel
theorem dX1_isChapel_18 : decode cX1_isChapel 18 = .ok (.iconst 0, 1) := by decide +kernel
theorem dX1_isChapel_19 : decode cX1_isChapel 19 = .ok (.ireturn, 1) := by decide +kernel
theorem dX2_init_0 : decode cX2_init 0 = .ok (.aload_n 0, 1) := by decide +kernel
theorem dX2_init_1 : decode cX2_init 1 = .ok (.invokespecial 3, 3) := by decide +kernel
theorem dX2_init_4 : decode cX2_init 4 = .ok (.aload_n 0, 1) := by decide +kernel
theorem dX2_init_5 : decode cX2_init 5 = .ok (.sipush 384, 3) := by decide +kernel
theorem dX2_init_8 : decode cX2_init 8 = .ok (.newarray .int, 2) := by decide +kernel
theorem dX2_init_10 : decode cX2_init 10 = .ok (.putfield 11, 3) := by decide +kernel
theorem dX2_init_13 : decode cX2_init 13 = .ok (.aload_n 0, 1) := by decide +kernel
theorem dX2_init_14 : decode cX2_init 14 = .ok (.sipush 180, 3) := by decide +kernel
theorem dX2_init_17 : decode cX2_init 17 = .ok (.newarray .int, 2) := by decide +kernel
theorem dX2_init_19 : decode cX2_init 19 = .ok (.putfield 15, 3) := by decide +kernel
theorem dX2_init_22 : decode cX2_init 22 = .ok (.return_, 1) := by decide +kernel
theorem dX2_clear_0 : decode cX2_clear 0 = .ok (.aload_n 0, 1) := by decide +kernel
theorem dX2_clear_1 : decode cX2_clear 1 = .ok (.iconst 0, 1) := by decide +kernel
theorem dX2_clear_2 : decode cX2_clear 2 = .ok (.putfield 18, 3) := by decide +kernel
theorem dX2_clear_5 : decode cX2_clear 5 = .ok (.return_, 1) := by decide +kernel
theorem dX2_length_0 : decode cX2_length 0 = .ok (.bipush 60, 2) := by decide +kernel
theorem dX2_length_2 : decode cX2_length 2 = .ok (.aload_n 0, 1) := by decide +kernel
theorem dX2_length_3 : decode cX2_length 3 = .ok (.getfield 18, 3) := by decide +kernel
theorem dX2_length_6 : decode cX2_length 6 = .ok (.invokestatic 22, 3) := by decide +kernel
theorem dX2_length_9 : decode cX2_length 9 = .ok (.ireturn, 1) := by decide +kernel
theorem dX2_add_0 : decode cX2_add 0 = .ok (.aload_n 0, 1) := by decide +kernel
theorem dX2_add_1 : decode cX2_add 1 = .ok (.getfield 18, 3) := by decide +kernel
theorem dX2_add_4 : decode cX2_add 4 = .ok (.sipush 128, 3) := by decide +kernel
theorem dX2_add_7 : decode cX2_add 7 = .ok (.irem, 1) := by decide +kernel
theorem dX2_add_8 : decode cX2_add 8 = .ok (.iconst 3, 1) := by decide +kernel
theorem dX2_add_9 : decode cX2_add 9 = .ok (.imul, 1) := by decide +kernel
theorem dX2_add_10 : decode cX2_add 10 = .ok (.istore 4, 2) := by decide +kernel
theorem dX2_add_12 : decode cX2_add 12 = .ok (.aload_n 0, 1) := by decide +kernel
theorem dX2_add_13 : decode cX2_add 13 = .ok (.getfield 11, 3) := by decide +kernel
theorem dX2_add_16 : decode cX2_add 16 = .ok (.iload 4, 2) := by decide +kernel
theorem dX2_add_18 : decode cX2_add 18 = .ok (.iload_n 1, 1) := by decide +kernel
theorem dX2_add_19 : decode cX2_add 19 = .ok (.iastore, 1) := by decide +kernel
theorem dX2_add_20 : decode cX2_add 20 = .ok (.aload_n 0, 1) := by decide +kernel
theorem dX2_add_21 : decode cX2_add 21 = .ok (.getfield 11, 3) := by decide +kernel
theorem dX2_add_24 : decode cX2_add 24 = .ok (.iload 4, 2) := by decide +kernel
theorem dX2_add_26 : decode cX2_add 26 = .ok (.iconst 1, 1) := by decide +kernel
theorem dX2_add_27 : decode cX2_add 27 = .ok (.iadd, 1) := by decide +kernel
theorem dX2_add_28 : decode cX2_add 28 = .ok (.iload_n 2, 1) := by decide +kernel
theorem dX2_add_29 : decode cX2_add 29 = .ok (.iastore, 1) := by decide +kernel
theorem dX2_add_30 : decode cX2_add 30 = .ok (.aload_n 0, 1) := by decide +kernel
theorem dX2_add_31 : decode cX2_add 31 = .ok (.getfield 11, 3) := by decide +kernel
theorem dX2_add_34 : decode cX2_add 34 = .ok (.iload 4, 2) := by decide +kernel
theorem dX2_add_36 : decode cX2_add 36 = .ok (.iconst 2, 1) := by decide +kernel
theorem dX2_add_37 : decode cX2_add 37 = .ok (.iadd, 1) := by decide +kernel
theorem dX2_add_38 : decode cX2_add 38 = .ok (.iload_n 3, 1) := by decide +kernel
theorem dX2_add_39 : decode cX2_add 39 = .ok (.iastore, 1) := by decide +kernel
theorem dX2_add_40 : decode cX2_add 40 = .ok (.aload_n 0, 1) := by decide +kernel
theorem dX2_add_41 : decode cX2_add 41 = .ok (.dup, 1) := by decide +kernel
theorem dX2_add_42 : decode cX2_add 42 = .ok (.getfield 18, 3) := by decide +kernel
theorem dX2_add_45 : decode cX2_add 45 = .ok (.iconst 1, 1) := by decide +kernel
theorem dX2_add_46 : decode cX2_add 46 = .ok (.iadd, 1) := by decide +kernel
theorem dX2_add_47 : decode cX2_add 47 = .ok (.putfield 18, 3) := by decide +kernel
theorem dX2_add_50 : decode cX2_add 50 = .ok (.return_, 1) := by decide +kernel
theorem dX2_tells_0 : decode cX2_tells 0 = .ok (.iload_n 1, 1) := by decide +kernel
theorem dX2_tells_1 : decode cX2_tells 1 = .ok (.ifCond .lt 20, 3) := by decide +kernel
theorem dX2_tells_4 : decode cX2_tells 4 = .ok (.iload_n 1, 1) := by decide +kernel
theorem dX2_tells_5 : decode cX2_tells 5 = .ok (.aload_n 0, 1) := by decide +kernel
theorem dX2_tells_6 : decode cX2_tells 6 = .ok (.invokevirtual 28, 3) := by decide +kernel
theorem dX2_tells_9 : decode cX2_tells 9 = .ok (.if_icmp .ge 12, 3) := by decide +kernel
theorem dX2_tells_12 : decode cX2_tells 12 = .ok (.iload_n 2, 1) := by decide +kernel
theorem dX2_tells_13 : decode cX2_tells 13 = .ok (.ifCond .lt 8, 3) := by decide +kernel
theorem dX2_tells_16 : decode cX2_tells 16 = .ok (.iload_n 2, 1) := by decide +kernel
theorem dX2_tells_17 : decode cX2_tells 17 = .ok (.iconst 3, 1) := by decide +kernel
theorem dX2_tells_18 : decode cX2_tells 18 = .ok (.if_icmp .lt 5, 3) := by decide +kernel
theorem dX2_tells_21 : decode cX2_tells 21 = .ok (.iconst (-1), 1) := by decide +kernel
theorem dX2_tells_22 : decode cX2_tells 22 = .ok (.ireturn, 1) := by decide +kernel
theorem dX2_tells_23 : decode cX2_tells 23 = .ok (.aload_n 0, 1) := by decide +kernel
theorem dX2_tells_24 : decode cX2_tells 24 = .ok (.getfield 11, 3) := by decide +kernel
theorem dX2_tells_27 : decode cX2_tells 27 = .ok (.aload_n 0, 1) := by decide +kernel
theorem dX2_tells_28 : decode cX2_tells 28 = .ok (.getfield 18, 3) := by decide +kernel
theorem dX2_tells_31 : decode cX2_tells 31 = .ok (.iconst 1, 1) := by decide +kernel
theorem dX2_tells_32 : decode cX2_tells 32 = .ok (.isub, 1) := by decide +kernel
theorem dX2_tells_33 : decode cX2_tells 33 = .ok (.iload_n 1, 1) := by decide +kernel
theorem dX2_tells_34 : decode cX2_tells 34 = .ok (.isub, 1) := by decide +kernel
theorem dX2_tells_35 : decode cX2_tells 35 = .ok (.sipush 128, 3) := by decide +kernel
theorem dX2_tells_38 : decode cX2_tells 38 = .ok (.irem, 1) := by decide +kernel
theorem dX2_tells_39 : decode cX2_tells 39 = .ok (.iconst 3, 1) := by decide +kernel
theorem dX2_tells_40 : decode cX2_tells 40 = .ok (.imul, 1) := by decide +kernel
theorem dX2_tells_41 : decode cX2_tells 41 = .ok (.iload_n 2, 1) := by decide +kernel
theorem dX2_tells_42 : decode cX2_tells 42 = .ok (.iadd, 1) := by decide +kernel
theorem dX2_tells_43 : decode cX2_tells 43 = .ok (.iaload, 1) := by decide +kernel
theorem dX2_tells_44 : decode cX2_tells 44 = .ok (.ireturn, 1) := by decide +kernel
theorem dX2_keep_0 : decode cX2_keep 0 = .ok (.aload_n 0, 1) := by decide +kernel
theorem dX2_keep_1 : decode cX2_keep 1 = .ok (.aload_n 0, 1) := by decide +kernel
theorem dX2_keep_2 : decode cX2_keep 2 = .ok (.invokevirtual 28, 3) := by decide +kernel
theorem dX2_keep_5 : decode cX2_keep 5 = .ok (.putfield 32, 3) := by decide +kernel
theorem dX2_keep_8 : decode cX2_keep 8 = .ok (.iconst 0, 1) := by decide +kernel
theorem dX2_keep_9 : decode cX2_keep 9 = .ok (.istore_n 1, 1) := by decide +kernel
theorem dX2_keep_10 : decode cX2_keep 10 = .ok (.iload_n 1, 1) := by decide +kernel
theorem dX2_keep_11 : decode cX2_keep 11 = .ok (.aload_n 0, 1) := by decide +kernel
theorem dX2_keep_12 : decode cX2_keep 12 = .ok (.getfield 32, 3) := by decide +kernel
theorem dX2_keep_15 : decode cX2_keep 15 = .ok (.if_icmp .ge 38, 3) := by decide +kernel
theorem dX2_keep_18 : decode cX2_keep 18 = .ok (.iconst 0, 1) := by decide +kernel
theorem dX2_keep_19 : decode cX2_keep 19 = .ok (.istore_n 2, 1) := by decide +kernel
theorem dX2_keep_20 : decode cX2_keep 20 = .ok (.iload_n 2, 1) := by decide +kernel
theorem dX2_keep_21 : decode cX2_keep 21 = .ok (.iconst 3, 1) := by decide +kernel
theorem dX2_keep_22 : decode cX2_keep 22 = .ok (.if_icmp .ge 25, 3) := by decide +kernel
theorem dX2_keep_25 : decode cX2_keep 25 = .ok (.aload_n 0, 1) := by decide +kernel
theorem dX2_keep_26 : decode cX2_keep 26 = .ok (.getfield 15, 3) := by decide +kernel
theorem dX2_keep_29 : decode cX2_keep 29 = .ok (.iload_n 1, 1) := by decide +kernel
theorem dX2_keep_30 : decode cX2_keep 30 = .ok (.iconst 3, 1) := by decide +kernel
theorem dX2_keep_31 : decode cX2_keep 31 = .ok (.imul, 1) := by decide +kernel
theorem dX2_keep_32 : decode cX2_keep 32 = .ok (.iload_n 2, 1) := by decide +kernel
theorem dX2_keep_33 : decode cX2_keep 33 = .ok (.iadd, 1) := by decide +kernel
theorem dX2_keep_34 : decode cX2_keep 34 = .ok (.aload_n 0, 1) := by decide +kernel
theorem dX2_keep_35 : decode cX2_keep 35 = .ok (.iload_n 1, 1) := by decide +kernel
theorem dX2_keep_36 : decode cX2_keep 36 = .ok (.iload_n 2, 1) := by decide +kernel
theorem dX2_keep_37 : decode cX2_keep 37 = .ok (.invokevirtual 35, 3) := by decide +kernel
theorem dX2_keep_40 : decode cX2_keep 40 = .ok (.iastore, 1) := by decide +kernel
theorem dX2_keep_41 : decode cX2_keep 41 = .ok (.iinc 2 1, 3) := by decide +kernel
theorem dX2_keep_44 : decode cX2_keep 44 = .ok (.goto (-24), 3) := by decide +kernel
theorem dX2_keep_47 : decode cX2_keep 47 = .ok (.iinc 1 1, 3) := by decide +kernel
theorem dX2_keep_50 : decode cX2_keep 50 = .ok (.goto (-40), 3) := by decide +kernel
theorem dX2_keep_53 : decode cX2_keep 53 = .ok (.return_, 1) := by decide +kernel
theorem dX2_giveBack_0 : decode cX2_giveBack 0 = .ok (.aload_n 0, 1) := by decide +kernel
theorem dX2_giveBack_1 : decode cX2_giveBack 1 = .ok (.invokevirtual 38, 3) := by decide +kernel
theorem dX2_giveBack_4 : decode cX2_giveBack 4 = .ok (.aload_n 0, 1) := by decide +kernel
theorem dX2_giveBack_5 : decode cX2_giveBack 5 = .ok (.getfield 32, 3) := by decide +kernel
theorem dX2_giveBack_8 : decode cX2_giveBack 8 = .ok (.iconst 1, 1) := by decide +kernel
theorem dX2_giveBack_9 : decode cX2_giveBack 9 = .ok (.isub, 1) := by decide +kernel
theorem dX2_giveBack_10 : decode cX2_giveBack 10 = .ok (.istore_n 1, 1) := by decide +kernel
theorem dX2_giveBack_11 : decode cX2_giveBack 11 = .ok (.iload_n 1, 1) := by decide +kernel
theorem dX2_giveBack_12 : decode cX2_giveBack 12 = .ok (.ifCond .lt 41, 3) := by decide +kernel
theorem dX2_giveBack_15 : decode cX2_giveBack 15 = .ok (.aload_n 0, 1) := by decide +kernel
theorem dX2_giveBack_16 : decode cX2_giveBack 16 = .ok (.aload_n 0, 1) := by decide +kernel
theorem dX2_giveBack_17 : decode cX2_giveBack 17 = .ok (.getfield 15, 3) := by decide +kernel
theorem dX2_giveBack_20 : decode cX2_giveBack 20 = .ok (.iload_n 1, 1) := by decide +kernel
theorem dX2_giveBack_21 : decode cX2_giveBack 21 = .ok (.iconst 3, 1) := by decide +kernel
theorem dX2_giveBack_22 : decode cX2_giveBack 22 = .ok (.imul, 1) := by decide +kernel
theorem dX2_giveBack_23 : decode cX2_giveBack 23 = .ok (.iaload, 1) := by decide +kernel
theorem dX2_giveBack_24 : decode cX2_giveBack 24 = .ok (.aload_n 0, 1) := by decide +kernel
theorem dX2_giveBack_25 : decode cX2_giveBack 25 = .ok (.getfield 15, 3) := by decide +kernel
theorem dX2_giveBack_28 : decode cX2_giveBack 28 = .ok (.iload_n 1, 1) := by decide +kernel
theorem dX2_giveBack_29 : decode cX2_giveBack 29 = .ok (.iconst 3, 1) := by decide +kernel
theorem dX2_giveBack_30 : decode cX2_giveBack 30 = .ok (.imul, 1) := by decide +kernel
theorem dX2_giveBack_31 : decode cX2_giveBack 31 = .ok (.iconst 1, 1) := by decide +kernel
theorem dX2_giveBack_32 : decode cX2_giveBack 32 = .ok (.iadd, 1) := by decide +kernel
theorem dX2_giveBack_33 : decode cX2_giveBack 33 = .ok (.iaload, 1) := by decide +kernel
theorem dX2_giveBack_34 : decode cX2_giveBack 34 = .ok (.aload_n 0, 1) := by decide +kernel
theorem dX2_giveBack_35 : decode cX2_giveBack 35 = .ok (.getfield 15, 3) := by decide +kernel
theorem dX2_giveBack_38 : decode cX2_giveBack 38 = .ok (.iload_n 1, 1) := by decide +kernel
theorem dX2_giveBack_39 : decode cX2_giveBack 39 = .ok (.iconst 3, 1) := by decide +kernel
theorem dX2_giveBack_40 : decode cX2_giveBack 40 = .ok (.imul, 1) := by decide +kernel
theorem dX2_giveBack_41 : decode cX2_giveBack 41 = .ok (.iconst 2, 1) := by decide +kernel
theorem dX2_giveBack_42 : decode cX2_giveBack 42 = .ok (.iadd, 1) := by decide +kernel
theorem dX2_giveBack_43 : decode cX2_giveBack 43 = .ok (.iaload, 1) := by decide +kernel
theorem dX2_giveBack_44 : decode cX2_giveBack 44 = .ok (.invokevirtual 41, 3) := by decide +kernel
theorem dX2_giveBack_47 : decode cX2_giveBack 47 = .ok (.iinc 1 (-1), 3) := by decide +kernel
theorem dX2_giveBack_50 : decode cX2_giveBack 50 = .ok (.goto (-39), 3) := by decide +kernel
theorem dX2_giveBack_53 : decode cX2_giveBack 53 = .ok (.return_, 1) := by decide +kernel
theorem dX3_init_0 : decode cX3_init 0 = .ok (.aload_n 0, 1) := by decide +kernel
theorem dX3_init_1 : decode cX3_init 1 = .ok (.invokespecial 3, 3) := by decide +kernel
theorem dX3_init_4 : decode cX3_init 4 = .ok (.aload_n 0, 1) := by decide +kernel
theorem dX3_init_5 : decode cX3_init 5 = .ok (.bipush 10, 2) := by decide +kernel
theorem dX3_init_7 : decode cX3_init 7 = .ok (.newarray .int, 2) := by decide +kernel
theorem dX3_init_9 : decode cX3_init 9 = .ok (.putfield 9, 3) := by decide +kernel
theorem dX3_init_12 : decode cX3_init 12 = .ok (.aload_n 0, 1) := by decide +kernel
theorem dX3_init_13 : decode cX3_init 13 = .ok (.bipush 10, 2) := by decide +kernel
theorem dX3_init_15 : decode cX3_init 15 = .ok (.newarray .int, 2) := by decide +kernel
theorem dX3_init_17 : decode cX3_init 17 = .ok (.putfield 15, 3) := by decide +kernel
theorem dX3_init_20 : decode cX3_init 20 = .ok (.aload_n 0, 1) := by decide +kernel
theorem dX3_init_21 : decode cX3_init 21 = .ok (.bipush 10, 2) := by decide +kernel
theorem dX3_init_23 : decode cX3_init 23 = .ok (.newarray .int, 2) := by decide +kernel
theorem dX3_init_25 : decode cX3_init 25 = .ok (.putfield 18, 3) := by decide +kernel
theorem dX3_init_28 : decode cX3_init 28 = .ok (.aload_n 0, 1) := by decide +kernel
theorem dX3_init_29 : decode cX3_init 29 = .ok (.bipush 10, 2) := by decide +kernel
theorem dX3_init_31 : decode cX3_init 31 = .ok (.newarray .int, 2) := by decide +kernel
theorem dX3_init_33 : decode cX3_init 33 = .ok (.putfield 21, 3) := by decide +kernel
theorem dX3_init_36 : decode cX3_init 36 = .ok (.return_, 1) := by decide +kernel
theorem dX3_add_0 : decode cX3_add 0 = .ok (.aload_n 0, 1) := by decide +kernel
theorem dX3_add_1 : decode cX3_add 1 = .ok (.getfield 24, 3) := by decide +kernel
theorem dX3_add_4 : decode cX3_add 4 = .ok (.bipush 10, 2) := by decide +kernel
theorem dX3_add_6 : decode cX3_add 6 = .ok (.if_icmp .ge 62, 3) := by decide +kernel
theorem dX3_add_9 : decode cX3_add 9 = .ok (.aload_n 0, 1) := by decide +kernel
theorem dX3_add_10 : decode cX3_add 10 = .ok (.getfield 9, 3) := by decide +kernel
theorem dX3_add_13 : decode cX3_add 13 = .ok (.aload_n 0, 1) := by decide +kernel
theorem dX3_add_14 : decode cX3_add 14 = .ok (.getfield 24, 3) := by decide +kernel
theorem dX3_add_17 : decode cX3_add 17 = .ok (.iload_n 1, 1) := by decide +kernel
theorem dX3_add_18 : decode cX3_add 18 = .ok (.iastore, 1) := by decide +kernel
theorem dX3_add_19 : decode cX3_add 19 = .ok (.aload_n 0, 1) := by decide +kernel
theorem dX3_add_20 : decode cX3_add 20 = .ok (.getfield 15, 3) := by decide +kernel
theorem dX3_add_23 : decode cX3_add 23 = .ok (.aload_n 0, 1) := by decide +kernel
theorem dX3_add_24 : decode cX3_add 24 = .ok (.getfield 24, 3) := by decide +kernel
theorem dX3_add_27 : decode cX3_add 27 = .ok (.iload_n 2, 1) := by decide +kernel
theorem dX3_add_28 : decode cX3_add 28 = .ok (.iastore, 1) := by decide +kernel
theorem dX3_add_29 : decode cX3_add 29 = .ok (.aload_n 0, 1) := by decide +kernel
theorem dX3_add_30 : decode cX3_add 30 = .ok (.getfield 18, 3) := by decide +kernel
theorem dX3_add_33 : decode cX3_add 33 = .ok (.aload_n 0, 1) := by decide +kernel
theorem dX3_add_34 : decode cX3_add 34 = .ok (.getfield 24, 3) := by decide +kernel
theorem dX3_add_37 : decode cX3_add 37 = .ok (.iload_n 3, 1) := by decide +kernel
theorem dX3_add_38 : decode cX3_add 38 = .ok (.iastore, 1) := by decide +kernel
theorem dX3_add_39 : decode cX3_add 39 = .ok (.aload_n 0, 1) := by decide +kernel
theorem dX3_add_40 : decode cX3_add 40 = .ok (.getfield 21, 3) := by decide +kernel
theorem dX3_add_43 : decode cX3_add 43 = .ok (.aload_n 0, 1) := by decide +kernel
theorem dX3_add_44 : decode cX3_add 44 = .ok (.getfield 24, 3) := by decide +kernel
theorem dX3_add_47 : decode cX3_add 47 = .ok (.iload 4, 2) := by decide +kernel
theorem dX3_add_49 : decode cX3_add 49 = .ok (.ifCond .eq 7, 3) := by decide +kernel
theorem dX3_add_52 : decode cX3_add 52 = .ok (.iconst 1, 1) := by decide +kernel
theorem dX3_add_53 : decode cX3_add 53 = .ok (.goto 4, 3) := by decide +kernel
theorem dX3_add_56 : decode cX3_add 56 = .ok (.iconst 0, 1) := by decide +kernel
theorem dX3_add_57 : decode cX3_add 57 = .ok (.iastore, 1) := by decide +kernel
theorem dX3_add_58 : decode cX3_add 58 = .ok (.aload_n 0, 1) := by decide +kernel
theorem dX3_add_59 : decode cX3_add 59 = .ok (.dup, 1) := by decide +kernel
theorem dX3_add_60 : decode cX3_add 60 = .ok (.getfield 24, 3) := by decide +kernel
theorem dX3_add_63 : decode cX3_add 63 = .ok (.iconst 1, 1) := by decide +kernel
theorem dX3_add_64 : decode cX3_add 64 = .ok (.iadd, 1) := by decide +kernel
theorem dX3_add_65 : decode cX3_add 65 = .ok (.putfield 24, 3) := by decide +kernel
theorem dX3_add_68 : decode cX3_add 68 = .ok (.return_, 1) := by decide +kernel
theorem dX4_init_0 : decode cX4_init 0 = .ok (.aload_n 0, 1) := by decide +kernel
theorem dX4_init_1 : decode cX4_init 1 = .ok (.invokespecial 3, 3) := by decide +kernel
theorem dX4_init_4 : decode cX4_init 4 = .ok (.aload_n 0, 1) := by decide +kernel
theorem dX4_init_5 : decode cX4_init 5 = .ok (.bipush 8, 2) := by decide +kernel
theorem dX4_init_7 : decode cX4_init 7 = .ok (.newarray .int, 2) := by decide +kernel
theorem dX4_init_9 : decode cX4_init 9 = .ok (.putfield 9, 3) := by decide +kernel
theorem dX4_init_12 : decode cX4_init 12 = .ok (.aload_n 0, 1) := by decide +kernel
theorem dX4_init_13 : decode cX4_init 13 = .ok (.aload_n 1, 1) := by decide +kernel
theorem dX4_init_14 : decode cX4_init 14 = .ok (.putfield 15, 3) := by decide +kernel
theorem dX4_init_17 : decode cX4_init 17 = .ok (.return_, 1) := by decide +kernel
theorem dX4_seek_0 : decode cX4_seek 0 = .ok (.aload_n 0, 1) := by decide +kernel
theorem dX4_seek_1 : decode cX4_seek 1 = .ok (.sipush 1000, 3) := by decide +kernel
theorem dX4_seek_4 : decode cX4_seek 4 = .ok (.putfield 19, 3) := by decide +kernel
theorem dX4_seek_7 : decode cX4_seek 7 = .ok (.aload_n 0, 1) := by decide +kernel
theorem dX4_seek_8 : decode cX4_seek 8 = .ok (.iconst (-1), 1) := by decide +kernel
theorem dX4_seek_9 : decode cX4_seek 9 = .ok (.putfield 23, 3) := by decide +kernel
theorem dX4_seek_12 : decode cX4_seek 12 = .ok (.aload_n 0, 1) := by decide +kernel
theorem dX4_seek_13 : decode cX4_seek 13 = .ok (.iconst 0, 1) := by decide +kernel
theorem dX4_seek_14 : decode cX4_seek 14 = .ok (.iconst 0, 1) := by decide +kernel
theorem dX4_seek_15 : decode cX4_seek 15 = .ok (.aload_n 0, 1) := by decide +kernel
theorem dX4_seek_16 : decode cX4_seek 16 = .ok (.getfield 15, 3) := by decide +kernel
theorem dX4_seek_19 : decode cX4_seek 19 = .ok (.getfield 26, 3) := by decide +kernel
theorem dX4_seek_22 : decode cX4_seek 22 = .ok (.iconst 2, 1) := by decide +kernel
theorem dX4_seek_23 : decode cX4_seek 23 = .ok (.irem, 1) := by decide +kernel
theorem dX4_seek_24 : decode cX4_seek 24 = .ok (.iconst 1, 1) := by decide +kernel
theorem dX4_seek_25 : decode cX4_seek 25 = .ok (.if_icmp .ne 7, 3) := by decide +kernel
theorem dX4_seek_28 : decode cX4_seek 28 = .ok (.iconst 1, 1) := by decide +kernel
theorem dX4_seek_29 : decode cX4_seek 29 = .ok (.goto 4, 3) := by decide +kernel
theorem dX4_seek_32 : decode cX4_seek 32 = .ok (.iconst 0, 1) := by decide +kernel
theorem dX4_seek_33 : decode cX4_seek 33 = .ok (.iconst 0, 1) := by decide +kernel
theorem dX4_seek_34 : decode cX4_seek 34 = .ok (.invokevirtual 31, 3) := by decide +kernel
theorem dX4_seek_37 : decode cX4_seek 37 = .ok (.aload_n 0, 1) := by decide +kernel
theorem dX4_seek_38 : decode cX4_seek 38 = .ok (.getfield 19, 3) := by decide +kernel
theorem dX4_seek_41 : decode cX4_seek 41 = .ok (.sipush 1000, 3) := by decide +kernel
theorem dX4_seek_44 : decode cX4_seek 44 = .ok (.if_icmp .ge 7, 3) := by decide +kernel
theorem dX4_seek_47 : decode cX4_seek 47 = .ok (.iconst 1, 1) := by decide +kernel
theorem dX4_seek_48 : decode cX4_seek 48 = .ok (.goto 4, 3) := by decide +kernel
theorem dX4_seek_51 : decode cX4_seek 51 = .ok (.iconst 0, 1) := by decide +kernel
theorem dX4_seek_52 : decode cX4_seek 52 = .ok (.ireturn, 1) := by decide +kernel
theorem dX4_pairFrom_0 : decode cX4_pairFrom 0 = .ok (.iload_n 1, 1) := by decide +kernel
theorem dX4_pairFrom_1 : decode cX4_pairFrom 1 = .ok (.aload_n 0, 1) := by decide +kernel
theorem dX4_pairFrom_2 : decode cX4_pairFrom 2 = .ok (.getfield 15, 3) := by decide +kernel
theorem dX4_pairFrom_5 : decode cX4_pairFrom 5 = .ok (.getfield 26, 3) := by decide +kernel
theorem dX4_pairFrom_8 : decode cX4_pairFrom 8 = .ok (.if_icmp .lt 10, 3) := by decide +kernel
theorem dX4_pairFrom_11 : decode cX4_pairFrom 11 = .ok (.aload_n 0, 1) := by decide +kernel
theorem dX4_pairFrom_12 : decode cX4_pairFrom 12 = .ok (.iload 4, 2) := by decide +kernel
theorem dX4_pairFrom_14 : decode cX4_pairFrom 14 = .ok (.invokevirtual 35, 3) := by decide +kernel
theorem dX4_pairFrom_17 : decode cX4_pairFrom 17 = .ok (.return_, 1) := by decide +kernel
theorem dX4_pairFrom_18 : decode cX4_pairFrom 18 = .ok (.iload_n 2, 1) := by decide +kernel
theorem dX4_pairFrom_19 : decode cX4_pairFrom 19 = .ok (.iload_n 1, 1) := by decide +kernel
theorem dX4_pairFrom_20 : decode cX4_pairFrom 20 = .ok (.invokestatic 39, 3) := by decide +kernel
theorem dX4_pairFrom_23 : decode cX4_pairFrom 23 = .ok (.iconst 1, 1) := by decide +kernel
theorem dX4_pairFrom_24 : decode cX4_pairFrom 24 = .ok (.if_icmp .ne 15, 3) := by decide +kernel
theorem dX4_pairFrom_27 : decode cX4_pairFrom 27 = .ok (.aload_n 0, 1) := by decide +kernel
theorem dX4_pairFrom_28 : decode cX4_pairFrom 28 = .ok (.iload_n 1, 1) := by decide +kernel
theorem dX4_pairFrom_29 : decode cX4_pairFrom 29 = .ok (.iconst 1, 1) := by decide +kernel
theorem dX4_pairFrom_30 : decode cX4_pairFrom 30 = .ok (.iadd, 1) := by decide +kernel
theorem dX4_pairFrom_31 : decode cX4_pairFrom 31 = .ok (.iload_n 2, 1) := by decide +kernel
theorem dX4_pairFrom_32 : decode cX4_pairFrom 32 = .ok (.iload_n 3, 1) := by decide +kernel
theorem dX4_pairFrom_33 : decode cX4_pairFrom 33 = .ok (.iload 4, 2) := by decide +kernel
theorem dX4_pairFrom_35 : decode cX4_pairFrom 35 = .ok (.invokevirtual 31, 3) := by decide +kernel
theorem dX4_pairFrom_38 : decode cX4_pairFrom 38 = .ok (.return_, 1) := by decide +kernel
theorem dX4_pairFrom_39 : decode cX4_pairFrom 39 = .ok (.iload_n 3, 1) := by decide +kernel
theorem dX4_pairFrom_40 : decode cX4_pairFrom 40 = .ok (.ifCond .eq 21, 3) := by decide +kernel
theorem dX4_pairFrom_43 : decode cX4_pairFrom 43 = .ok (.aload_n 0, 1) := by decide +kernel
theorem dX4_pairFrom_44 : decode cX4_pairFrom 44 = .ok (.getfield 9, 3) := by decide +kernel
theorem dX4_pairFrom_47 : decode cX4_pairFrom 47 = .ok (.iload_n 1, 1) := by decide +kernel
theorem dX4_pairFrom_48 : decode cX4_pairFrom 48 = .ok (.iload_n 1, 1) := by decide +kernel
theorem dX4_pairFrom_49 : decode cX4_pairFrom 49 = .ok (.iastore, 1) := by decide +kernel
theorem dX4_pairFrom_50 : decode cX4_pairFrom 50 = .ok (.aload_n 0, 1) := by decide +kernel
theorem dX4_pairFrom_51 : decode cX4_pairFrom 51 = .ok (.iload_n 1, 1) := by decide +kernel
theorem dX4_pairFrom_52 : decode cX4_pairFrom 52 = .ok (.iconst 1, 1) := by decide +kernel
theorem dX4_pairFrom_53 : decode cX4_pairFrom 53 = .ok (.iadd, 1) := by decide +kernel
theorem dX4_pairFrom_54 : decode cX4_pairFrom 54 = .ok (.iload_n 2, 1) := by decide +kernel
theorem dX4_pairFrom_55 : decode cX4_pairFrom 55 = .ok (.iconst 0, 1) := by decide +kernel
theorem dX4_pairFrom_56 : decode cX4_pairFrom 56 = .ok (.iload 4, 2) := by decide +kernel
theorem dX4_pairFrom_58 : decode cX4_pairFrom 58 = .ok (.invokevirtual 31, 3) := by decide +kernel
theorem dX4_pairFrom_61 : decode cX4_pairFrom 61 = .ok (.iload_n 1, 1) := by decide +kernel
theorem dX4_pairFrom_62 : decode cX4_pairFrom 62 = .ok (.iconst 1, 1) := by decide +kernel
theorem dX4_pairFrom_63 : decode cX4_pairFrom 63 = .ok (.iadd, 1) := by decide +kernel
theorem dX4_pairFrom_64 : decode cX4_pairFrom 64 = .ok (.istore 5, 2) := by decide +kernel
theorem dX4_pairFrom_66 : decode cX4_pairFrom 66 = .ok (.iload 5, 2) := by decide +kernel
theorem dX4_pairFrom_68 : decode cX4_pairFrom 68 = .ok (.aload_n 0, 1) := by decide +kernel
theorem dX4_pairFrom_69 : decode cX4_pairFrom 69 = .ok (.getfield 15, 3) := by decide +kernel
theorem dX4_pairFrom_72 : decode cX4_pairFrom 72 = .ok (.getfield 26, 3) := by decide +kernel
theorem dX4_pairFrom_75 : decode cX4_pairFrom 75 = .ok (.if_icmp .ge 100, 3) := by decide +kernel
theorem dX4_pairFrom_78 : decode cX4_pairFrom 78 = .ok (.aload_n 0, 1) := by decide +kernel
theorem dX4_pairFrom_79 : decode cX4_pairFrom 79 = .ok (.getfield 15, 3) := by decide +kernel
theorem dX4_pairFrom_82 : decode cX4_pairFrom 82 = .ok (.getfield 43, 3) := by decide +kernel
theorem dX4_pairFrom_85 : decode cX4_pairFrom 85 = .ok (.iload_n 1, 1) := by decide +kernel
theorem dX4_pairFrom_86 : decode cX4_pairFrom 86 = .ok (.iaload, 1) := by decide +kernel
theorem dX4_pairFrom_87 : decode cX4_pairFrom 87 = .ok (.iconst 2, 1) := by decide +kernel
theorem dX4_pairFrom_88 : decode cX4_pairFrom 88 = .ok (.if_icmp .ne 21, 3) := by decide +kernel
theorem dX4_pairFrom_91 : decode cX4_pairFrom 91 = .ok (.aload_n 0, 1) := by decide +kernel
theorem dX4_pairFrom_92 : decode cX4_pairFrom 92 = .ok (.getfield 15, 3) := by decide +kernel
theorem dX4_pairFrom_95 : decode cX4_pairFrom 95 = .ok (.getfield 43, 3) := by decide +kernel
theorem dX4_pairFrom_98 : decode cX4_pairFrom 98 = .ok (.iload 5, 2) := by decide +kernel
theorem dX4_pairFrom_100 : decode cX4_pairFrom 100 = .ok (.iaload, 1) := by decide +kernel
theorem dX4_pairFrom_101 : decode cX4_pairFrom 101 = .ok (.iconst 2, 1) := by decide +kernel
theorem dX4_pairFrom_102 : decode cX4_pairFrom 102 = .ok (.if_icmp .ne 7, 3) := by decide +kernel
theorem dX4_pairFrom_105 : decode cX4_pairFrom 105 = .ok (.iconst 1, 1) := by decide +kernel
theorem dX4_pairFrom_106 : decode cX4_pairFrom 106 = .ok (.goto 4, 3) := by decide +kernel
theorem dX4_pairFrom_109 : decode cX4_pairFrom 109 = .ok (.iconst 0, 1) := by decide +kernel
theorem dX4_pairFrom_110 : decode cX4_pairFrom 110 = .ok (.istore 6, 2) := by decide +kernel
theorem dX4_pairFrom_112 : decode cX4_pairFrom 112 = .ok (.iload_n 2, 1) := by decide +kernel
theorem dX4_pairFrom_113 : decode cX4_pairFrom 113 = .ok (.iload 5, 2) := by decide +kernel
theorem dX4_pairFrom_115 : decode cX4_pairFrom 115 = .ok (.invokestatic 39, 3) := by decide +kernel
theorem dX4_pairFrom_118 : decode cX4_pairFrom 118 = .ok (.ifCond .ne 51, 3) := by decide +kernel
theorem dX4_pairFrom_121 : decode cX4_pairFrom 121 = .ok (.iload 6, 2) := by decide +kernel
theorem dX4_pairFrom_123 : decode cX4_pairFrom 123 = .ok (.ifCond .ne 46, 3) := by decide +kernel
theorem dX4_pairFrom_126 : decode cX4_pairFrom 126 = .ok (.aload_n 0, 1) := by decide +kernel
theorem dX4_pairFrom_127 : decode cX4_pairFrom 127 = .ok (.getfield 9, 3) := by decide +kernel
theorem dX4_pairFrom_130 : decode cX4_pairFrom 130 = .ok (.iload_n 1, 1) := by decide +kernel
theorem dX4_pairFrom_131 : decode cX4_pairFrom 131 = .ok (.iload 5, 2) := by decide +kernel
theorem dX4_pairFrom_133 : decode cX4_pairFrom 133 = .ok (.iastore, 1) := by decide +kernel
theorem dX4_pairFrom_134 : decode cX4_pairFrom 134 = .ok (.aload_n 0, 1) := by decide +kernel
theorem dX4_pairFrom_135 : decode cX4_pairFrom 135 = .ok (.getfield 9, 3) := by decide +kernel
theorem dX4_pairFrom_138 : decode cX4_pairFrom 138 = .ok (.iload 5, 2) := by decide +kernel
theorem dX4_pairFrom_140 : decode cX4_pairFrom 140 = .ok (.iload_n 1, 1) := by decide +kernel
theorem dX4_pairFrom_141 : decode cX4_pairFrom 141 = .ok (.iastore, 1) := by decide +kernel
theorem dX4_pairFrom_142 : decode cX4_pairFrom 142 = .ok (.aload_n 0, 1) := by decide +kernel
theorem dX4_pairFrom_143 : decode cX4_pairFrom 143 = .ok (.iload_n 1, 1) := by decide +kernel
theorem dX4_pairFrom_144 : decode cX4_pairFrom 144 = .ok (.iconst 1, 1) := by decide +kernel
theorem dX4_pairFrom_145 : decode cX4_pairFrom 145 = .ok (.iadd, 1) := by decide +kernel
theorem dX4_pairFrom_146 : decode cX4_pairFrom 146 = .ok (.iload_n 2, 1) := by decide +kernel
theorem dX4_pairFrom_147 : decode cX4_pairFrom 147 = .ok (.iconst 1, 1) := by decide +kernel
theorem dX4_pairFrom_148 : decode cX4_pairFrom 148 = .ok (.iload 5, 2) := by decide +kernel
theorem dX4_pairFrom_150 : decode cX4_pairFrom 150 = .ok (.ishl, 1) := by decide +kernel
theorem dX4_pairFrom_151 : decode cX4_pairFrom 151 = .ok (.ior, 1) := by decide +kernel
theorem dX4_pairFrom_152 : decode cX4_pairFrom 152 = .ok (.iload_n 3, 1) := by decide +kernel
theorem dX4_pairFrom_153 : decode cX4_pairFrom 153 = .ok (.iload 4, 2) := by decide +kernel
theorem dX4_pairFrom_155 : decode cX4_pairFrom 155 = .ok (.aload_n 0, 1) := by decide +kernel
theorem dX4_pairFrom_156 : decode cX4_pairFrom 156 = .ok (.getfield 15, 3) := by decide +kernel
theorem dX4_pairFrom_159 : decode cX4_pairFrom 159 = .ok (.iload_n 1, 1) := by decide +kernel
theorem dX4_pairFrom_160 : decode cX4_pairFrom 160 = .ok (.iload 5, 2) := by decide +kernel
theorem dX4_pairFrom_162 : decode cX4_pairFrom 162 = .ok (.invokevirtual 46, 3) := by decide +kernel
theorem dX4_pairFrom_165 : decode cX4_pairFrom 165 = .ok (.iadd, 1) := by decide +kernel
theorem dX4_pairFrom_166 : decode cX4_pairFrom 166 = .ok (.invokevirtual 31, 3) := by decide +kernel
theorem dX4_pairFrom_169 : decode cX4_pairFrom 169 = .ok (.iinc 5 1, 3) := by decide +kernel
theorem dX4_pairFrom_172 : decode cX4_pairFrom 172 = .ok (.goto (-106), 3) := by decide +kernel
theorem dX4_pairFrom_175 : decode cX4_pairFrom 175 = .ok (.return_, 1) := by decide +kernel
theorem dX4_keepLeast_0 : decode cX4_keepLeast 0 = .ok (.iload_n 1, 1) := by decide +kernel
theorem dX4_keepLeast_1 : decode cX4_keepLeast 1 = .ok (.aload_n 0, 1) := by decide +kernel
theorem dX4_keepLeast_2 : decode cX4_keepLeast 2 = .ok (.getfield 19, 3) := by decide +kernel
theorem dX4_keepLeast_5 : decode cX4_keepLeast 5 = .ok (.if_icmp .lt 4, 3) := by decide +kernel
theorem dX4_keepLeast_8 : decode cX4_keepLeast 8 = .ok (.return_, 1) := by decide +kernel
theorem dX4_keepLeast_9 : decode cX4_keepLeast 9 = .ok (.aload_n 0, 1) := by decide +kernel
theorem dX4_keepLeast_10 : decode cX4_keepLeast 10 = .ok (.iload_n 1, 1) := by decide +kernel
theorem dX4_keepLeast_11 : decode cX4_keepLeast 11 = .ok (.putfield 19, 3) := by decide +kernel
theorem dX4_keepLeast_14 : decode cX4_keepLeast 14 = .ok (.aload_n 0, 1) := by decide +kernel
theorem dX4_keepLeast_15 : decode cX4_keepLeast 15 = .ok (.iconst 0, 1) := by decide +kernel
theorem dX4_keepLeast_16 : decode cX4_keepLeast 16 = .ok (.putfield 23, 3) := by decide +kernel
theorem dX4_keepLeast_19 : decode cX4_keepLeast 19 = .ok (.iconst 0, 1) := by decide +kernel
theorem dX4_keepLeast_20 : decode cX4_keepLeast 20 = .ok (.istore_n 2, 1) := by decide +kernel
theorem dX4_keepLeast_21 : decode cX4_keepLeast 21 = .ok (.iload_n 2, 1) := by decide +kernel
theorem dX4_keepLeast_22 : decode cX4_keepLeast 22 = .ok (.aload_n 0, 1) := by decide +kernel
theorem dX4_keepLeast_23 : decode cX4_keepLeast 23 = .ok (.getfield 15, 3) := by decide +kernel
theorem dX4_keepLeast_26 : decode cX4_keepLeast 26 = .ok (.getfield 26, 3) := by decide +kernel
theorem dX4_keepLeast_29 : decode cX4_keepLeast 29 = .ok (.if_icmp .ge 27, 3) := by decide +kernel
theorem dX4_keepLeast_32 : decode cX4_keepLeast 32 = .ok (.aload_n 0, 1) := by decide +kernel
theorem dX4_keepLeast_33 : decode cX4_keepLeast 33 = .ok (.aload_n 0, 1) := by decide +kernel
theorem dX4_keepLeast_34 : decode cX4_keepLeast 34 = .ok (.getfield 23, 3) := by decide +kernel
theorem dX4_keepLeast_37 : decode cX4_keepLeast 37 = .ok (.bipush 10, 2) := by decide +kernel
theorem dX4_keepLeast_39 : decode cX4_keepLeast 39 = .ok (.imul, 1) := by decide +kernel
theorem dX4_keepLeast_40 : decode cX4_keepLeast 40 = .ok (.aload_n 0, 1) := by decide +kernel
theorem dX4_keepLeast_41 : decode cX4_keepLeast 41 = .ok (.getfield 9, 3) := by decide +kernel
theorem dX4_keepLeast_44 : decode cX4_keepLeast 44 = .ok (.iload_n 2, 1) := by decide +kernel
theorem dX4_keepLeast_45 : decode cX4_keepLeast 45 = .ok (.iaload, 1) := by decide +kernel
theorem dX4_keepLeast_46 : decode cX4_keepLeast 46 = .ok (.iadd, 1) := by decide +kernel
theorem dX4_keepLeast_47 : decode cX4_keepLeast 47 = .ok (.putfield 23, 3) := by decide +kernel
theorem dX4_keepLeast_50 : decode cX4_keepLeast 50 = .ok (.iinc 2 1, 3) := by decide +kernel
theorem dX4_keepLeast_53 : decode cX4_keepLeast 53 = .ok (.goto (-32), 3) := by decide +kernel
theorem dX4_keepLeast_56 : decode cX4_keepLeast 56 = .ok (.return_, 1) := by decide +kernel
theorem dX5_init_0 : decode cX5_init 0 = .ok (.aload_n 0, 1) := by decide +kernel
theorem dX5_init_1 : decode cX5_init 1 = .ok (.invokespecial 3, 3) := by decide +kernel
theorem dX5_init_4 : decode cX5_init 4 = .ok (.aload_n 0, 1) := by decide +kernel
theorem dX5_init_5 : decode cX5_init 5 = .ok (.sipush 1440, 3) := by decide +kernel
theorem dX5_init_8 : decode cX5_init 8 = .ok (.newarray .int, 2) := by decide +kernel
theorem dX5_init_10 : decode cX5_init 10 = .ok (.putfield 11, 3) := by decide +kernel
theorem dX5_init_13 : decode cX5_init 13 = .ok (.return_, 1) := by decide +kernel
theorem dX5_clear_0 : decode cX5_clear 0 = .ok (.aload_n 0, 1) := by decide +kernel
theorem dX5_clear_1 : decode cX5_clear 1 = .ok (.iconst 0, 1) := by decide +kernel
theorem dX5_clear_2 : decode cX5_clear 2 = .ok (.putfield 15, 3) := by decide +kernel
theorem dX5_clear_5 : decode cX5_clear 5 = .ok (.return_, 1) := by decide +kernel
theorem dX5_remember_0 : decode cX5_remember 0 = .ok (.aload_n 0, 1) := by decide +kernel
theorem dX5_remember_1 : decode cX5_remember 1 = .ok (.getfield 19, 3) := by decide +kernel
theorem dX5_remember_4 : decode cX5_remember 4 = .ok (.bipush 36, 2) := by decide +kernel
theorem dX5_remember_6 : decode cX5_remember 6 = .ok (.imul, 1) := by decide +kernel
theorem dX5_remember_7 : decode cX5_remember 7 = .ok (.istore_n 3, 1) := by decide +kernel
theorem dX5_remember_8 : decode cX5_remember 8 = .ok (.aload_n 1, 1) := by decide +kernel
theorem dX5_remember_9 : decode cX5_remember 9 = .ok (.aload_n 0, 1) := by decide +kernel
theorem dX5_remember_10 : decode cX5_remember 10 = .ok (.getfield 11, 3) := by decide +kernel
theorem dX5_remember_13 : decode cX5_remember 13 = .ok (.iload_n 3, 1) := by decide +kernel
theorem dX5_remember_14 : decode cX5_remember 14 = .ok (.invokevirtual 22, 3) := by decide +kernel
theorem dX5_remember_17 : decode cX5_remember 17 = .ok (.aload_n 0, 1) := by decide +kernel
theorem dX5_remember_18 : decode cX5_remember 18 = .ok (.getfield 11, 3) := by decide +kernel
theorem dX5_remember_21 : decode cX5_remember 21 = .ok (.iload_n 3, 1) := by decide +kernel
theorem dX5_remember_22 : decode cX5_remember 22 = .ok (.bipush 35, 2) := by decide +kernel
theorem dX5_remember_24 : decode cX5_remember 24 = .ok (.iadd, 1) := by decide +kernel
theorem dX5_remember_25 : decode cX5_remember 25 = .ok (.iload_n 2, 1) := by decide +kernel
theorem dX5_remember_26 : decode cX5_remember 26 = .ok (.iastore, 1) := by decide +kernel
theorem dX5_remember_27 : decode cX5_remember 27 = .ok (.aload_n 0, 1) := by decide +kernel
theorem dX5_remember_28 : decode cX5_remember 28 = .ok (.aload_n 0, 1) := by decide +kernel
theorem dX5_remember_29 : decode cX5_remember 29 = .ok (.getfield 19, 3) := by decide +kernel
theorem dX5_remember_32 : decode cX5_remember 32 = .ok (.iconst 1, 1) := by decide +kernel
theorem dX5_remember_33 : decode cX5_remember 33 = .ok (.iadd, 1) := by decide +kernel
theorem dX5_remember_34 : decode cX5_remember 34 = .ok (.bipush 40, 2) := by decide +kernel
theorem dX5_remember_36 : decode cX5_remember 36 = .ok (.irem, 1) := by decide +kernel
theorem dX5_remember_37 : decode cX5_remember 37 = .ok (.putfield 19, 3) := by decide +kernel
theorem dX5_remember_40 : decode cX5_remember 40 = .ok (.aload_n 0, 1) := by decide +kernel
theorem dX5_remember_41 : decode cX5_remember 41 = .ok (.bipush 40, 2) := by decide +kernel
theorem dX5_remember_43 : decode cX5_remember 43 = .ok (.aload_n 0, 1) := by decide +kernel
theorem dX5_remember_44 : decode cX5_remember 44 = .ok (.getfield 15, 3) := by decide +kernel
theorem dX5_remember_47 : decode cX5_remember 47 = .ok (.iconst 1, 1) := by decide +kernel
theorem dX5_remember_48 : decode cX5_remember 48 = .ok (.iadd, 1) := by decide +kernel
theorem dX5_remember_49 : decode cX5_remember 49 = .ok (.invokestatic 26, 3) := by decide +kernel
theorem dX5_remember_52 : decode cX5_remember 52 = .ok (.putfield 15, 3) := by decide +kernel
theorem dX5_remember_55 : decode cX5_remember 55 = .ok (.return_, 1) := by decide +kernel
theorem dX5_goBack_0 : decode cX5_goBack 0 = .ok (.aload_n 0, 1) := by decide +kernel
theorem dX5_goBack_1 : decode cX5_goBack 1 = .ok (.aload_n 0, 1) := by decide +kernel
theorem dX5_goBack_2 : decode cX5_goBack 2 = .ok (.getfield 19, 3) := by decide +kernel
theorem dX5_goBack_5 : decode cX5_goBack 5 = .ok (.bipush 40, 2) := by decide +kernel
theorem dX5_goBack_7 : decode cX5_goBack 7 = .ok (.iadd, 1) := by decide +kernel
theorem dX5_goBack_8 : decode cX5_goBack 8 = .ok (.iconst 1, 1) := by decide +kernel
theorem dX5_goBack_9 : decode cX5_goBack 9 = .ok (.isub, 1) := by decide +kernel
theorem dX5_goBack_10 : decode cX5_goBack 10 = .ok (.bipush 40, 2) := by decide +kernel
theorem dX5_goBack_12 : decode cX5_goBack 12 = .ok (.irem, 1) := by decide +kernel
theorem dX5_goBack_13 : decode cX5_goBack 13 = .ok (.putfield 19, 3) := by decide +kernel
theorem dX5_goBack_16 : decode cX5_goBack 16 = .ok (.aload_n 0, 1) := by decide +kernel
theorem dX5_goBack_17 : decode cX5_goBack 17 = .ok (.dup, 1) := by decide +kernel
theorem dX5_goBack_18 : decode cX5_goBack 18 = .ok (.getfield 15, 3) := by decide +kernel
theorem dX5_goBack_21 : decode cX5_goBack 21 = .ok (.iconst 1, 1) := by decide +kernel
theorem dX5_goBack_22 : decode cX5_goBack 22 = .ok (.isub, 1) := by decide +kernel
theorem dX5_goBack_23 : decode cX5_goBack 23 = .ok (.putfield 15, 3) := by decide +kernel
theorem dX5_goBack_26 : decode cX5_goBack 26 = .ok (.aload_n 0, 1) := by decide +kernel
theorem dX5_goBack_27 : decode cX5_goBack 27 = .ok (.getfield 19, 3) := by decide +kernel
theorem dX5_goBack_30 : decode cX5_goBack 30 = .ok (.bipush 36, 2) := by decide +kernel
theorem dX5_goBack_32 : decode cX5_goBack 32 = .ok (.imul, 1) := by decide +kernel
theorem dX5_goBack_33 : decode cX5_goBack 33 = .ok (.istore_n 2, 1) := by decide +kernel
theorem dX5_goBack_34 : decode cX5_goBack 34 = .ok (.aload_n 1, 1) := by decide +kernel
theorem dX5_goBack_35 : decode cX5_goBack 35 = .ok (.aload_n 0, 1) := by decide +kernel
theorem dX5_goBack_36 : decode cX5_goBack 36 = .ok (.getfield 11, 3) := by decide +kernel
theorem dX5_goBack_39 : decode cX5_goBack 39 = .ok (.iload_n 2, 1) := by decide +kernel
theorem dX5_goBack_40 : decode cX5_goBack 40 = .ok (.invokevirtual 32, 3) := by decide +kernel
theorem dX5_goBack_43 : decode cX5_goBack 43 = .ok (.aload_n 0, 1) := by decide +kernel
theorem dX5_goBack_44 : decode cX5_goBack 44 = .ok (.getfield 11, 3) := by decide +kernel
theorem dX5_goBack_47 : decode cX5_goBack 47 = .ok (.iload_n 2, 1) := by decide +kernel
theorem dX5_goBack_48 : decode cX5_goBack 48 = .ok (.bipush 35, 2) := by decide +kernel
theorem dX5_goBack_50 : decode cX5_goBack 50 = .ok (.iadd, 1) := by decide +kernel
theorem dX5_goBack_51 : decode cX5_goBack 51 = .ok (.iaload, 1) := by decide +kernel
theorem dX5_goBack_52 : decode cX5_goBack 52 = .ok (.ireturn, 1) := by decide +kernel
theorem dX6_init_0 : decode cX6_init 0 = .ok (.aload_n 0, 1) := by decide +kernel
theorem dX6_init_1 : decode cX6_init 1 = .ok (.invokespecial 5, 3) := by decide +kernel
theorem dX6_init_4 : decode cX6_init 4 = .ok (.aload_n 0, 1) := by decide +kernel
theorem dX6_init_5 : decode cX6_init 5 = .ok (.sipush 240, 3) := by decide +kernel
theorem dX6_init_8 : decode cX6_init 8 = .ok (.newarray .int, 2) := by decide +kernel
theorem dX6_init_10 : decode cX6_init 10 = .ok (.putfield 11, 3) := by decide +kernel
theorem dX6_init_13 : decode cX6_init 13 = .ok (.aload_n 0, 1) := by decide +kernel
theorem dX6_init_14 : decode cX6_init 14 = .ok (.aload_n 1, 1) := by decide +kernel
theorem dX6_init_15 : decode cX6_init 15 = .ok (.putfield 15, 3) := by decide +kernel
theorem dX6_init_18 : decode cX6_init 18 = .ok (.return_, 1) := by decide +kernel
theorem dX6_reads_0 : decode cX6_reads 0 = .ok (.aload_n 0, 1) := by decide +kernel
theorem dX6_reads_1 : decode cX6_reads 1 = .ok (.getfield 15, 3) := by decide +kernel
theorem dX6_reads_4 : decode cX6_reads 4 = .ok (.iconst 0, 1) := by decide +kernel
theorem dX6_reads_5 : decode cX6_reads 5 = .ok (.putfield 19, 3) := by decide +kernel
theorem dX6_reads_8 : decode cX6_reads 8 = .ok (.aload_n 0, 1) := by decide +kernel
theorem dX6_reads_9 : decode cX6_reads 9 = .ok (.iconst 0, 1) := by decide +kernel
theorem dX6_reads_10 : decode cX6_reads 10 = .ok (.putfield 25, 3) := by decide +kernel
theorem dX6_reads_13 : decode cX6_reads 13 = .ok (.iconst 0, 1) := by decide +kernel
theorem dX6_reads_14 : decode cX6_reads 14 = .ok (.istore_n 1, 1) := by decide +kernel
theorem dX6_reads_15 : decode cX6_reads 15 = .ok (.iload_n 1, 1) := by decide +kernel
theorem dX6_reads_16 : decode cX6_reads 16 = .ok (.sipush 240, 3) := by decide +kernel
theorem dX6_reads_19 : decode cX6_reads 19 = .ok (.if_icmp .ge 33, 3) := by decide +kernel
theorem dX6_reads_22 : decode cX6_reads 22 = .ok (.aload_n 0, 1) := by decide +kernel
theorem dX6_reads_23 : decode cX6_reads 23 = .ok (.invokevirtual 28, 3) := by decide +kernel
theorem dX6_reads_26 : decode cX6_reads 26 = .ok (.ifCond .ne 5, 3) := by decide +kernel
theorem dX6_reads_29 : decode cX6_reads 29 = .ok (.iconst 0, 1) := by decide +kernel
theorem dX6_reads_30 : decode cX6_reads 30 = .ok (.ireturn, 1) := by decide +kernel
theorem dX6_reads_31 : decode cX6_reads 31 = .ok (.aload_n 0, 1) := by decide +kernel
theorem dX6_reads_32 : decode cX6_reads 32 = .ok (.getfield 15, 3) := by decide +kernel
theorem dX6_reads_35 : decode cX6_reads 35 = .ok (.bipush 59, 2) := by decide +kernel
theorem dX6_reads_37 : decode cX6_reads 37 = .ok (.invokevirtual 32, 3) := by decide +kernel
theorem dX6_reads_40 : decode cX6_reads 40 = .ok (.ifCond .ne 6, 3) := by decide +kernel
theorem dX6_reads_43 : decode cX6_reads 43 = .ok (.goto 9, 3) := by decide +kernel
theorem dX6_reads_46 : decode cX6_reads 46 = .ok (.iinc 1 1, 3) := by decide +kernel
theorem dX6_reads_49 : decode cX6_reads 49 = .ok (.goto (-34), 3) := by decide +kernel
theorem dX6_reads_52 : decode cX6_reads 52 = .ok (.aload_n 0, 1) := by decide +kernel
theorem dX6_reads_53 : decode cX6_reads 53 = .ok (.getfield 15, 3) := by decide +kernel
theorem dX6_reads_56 : decode cX6_reads 56 = .ok (.invokevirtual 36, 3) := by decide +kernel
theorem dX6_reads_59 : decode cX6_reads 59 = .ok (.iconst (-1), 1) := by decide +kernel
theorem dX6_reads_60 : decode cX6_reads 60 = .ok (.if_icmp .ne 7, 3) := by decide +kernel
theorem dX6_reads_63 : decode cX6_reads 63 = .ok (.iconst 1, 1) := by decide +kernel
theorem dX6_reads_64 : decode cX6_reads 64 = .ok (.goto 4, 3) := by decide +kernel
theorem dX6_reads_67 : decode cX6_reads 67 = .ok (.iconst 0, 1) := by decide +kernel
theorem dX6_reads_68 : decode cX6_reads 68 = .ok (.ireturn, 1) := by decide +kernel
theorem dX6_readsClause_0 : decode cX6_readsClause 0 = .ok (.aload_n 0, 1) := by decide +kernel
theorem dX6_readsClause_1 : decode cX6_readsClause 1 = .ok (.getfield 15, 3) := by decide +kernel
theorem dX6_readsClause_4 : decode cX6_readsClause 4 = .ok (.bipush 121, 2) := by decide +kernel
theorem dX6_readsClause_6 : decode cX6_readsClause 6 = .ok (.invokevirtual 32, 3) := by decide +kernel
theorem dX6_readsClause_9 : decode cX6_readsClause 9 = .ok (.ifCond .eq 15, 3) := by decide +kernel
theorem dX6_readsClause_12 : decode cX6_readsClause 12 = .ok (.aload_n 0, 1) := by decide +kernel
theorem dX6_readsClause_13 : decode cX6_readsClause 13 = .ok (.getfield 15, 3) := by decide +kernel
theorem dX6_readsClause_16 : decode cX6_readsClause 16 = .ok (.bipush 58, 2) := by decide +kernel
theorem dX6_readsClause_18 : decode cX6_readsClause 18 = .ok (.invokevirtual 32, 3) := by decide +kernel
theorem dX6_readsClause_21 : decode cX6_readsClause 21 = .ok (.ifCond .ne 5, 3) := by decide +kernel
theorem dX6_readsClause_24 : decode cX6_readsClause 24 = .ok (.iconst 0, 1) := by decide +kernel
theorem dX6_readsClause_25 : decode cX6_readsClause 25 = .ok (.ireturn, 1) := by decide +kernel
theorem dX6_readsClause_26 : decode cX6_readsClause 26 = .ok (.aload_n 0, 1) := by decide +kernel
theorem dX6_readsClause_27 : decode cX6_readsClause 27 = .ok (.getfield 15, 3) := by decide +kernel
theorem dX6_readsClause_30 : decode cX6_readsClause 30 = .ok (.invokevirtual 36, 3) := by decide +kernel
theorem dX6_readsClause_33 : decode cX6_readsClause 33 = .ok (.istore_n 1, 1) := by decide +kernel
theorem dX6_readsClause_34 : decode cX6_readsClause 34 = .ok (.iload_n 1, 1) := by decide +kernel
theorem dX6_readsClause_35 : decode cX6_readsClause 35 = .ok (.bipush 33, 2) := by decide +kernel
theorem dX6_readsClause_37 : decode cX6_readsClause 37 = .ok (.if_icmp .eq 13, 3) := by decide +kernel
theorem dX6_readsClause_40 : decode cX6_readsClause 40 = .ok (.iload_n 1, 1) := by decide +kernel
theorem dX6_readsClause_41 : decode cX6_readsClause 41 = .ok (.bipush 40, 2) := by decide +kernel
theorem dX6_readsClause_43 : decode cX6_readsClause 43 = .ok (.if_icmp .eq 7, 3) := by decide +kernel
theorem dX6_readsClause_46 : decode cX6_readsClause 46 = .ok (.iconst 1, 1) := by decide +kernel
theorem dX6_readsClause_47 : decode cX6_readsClause 47 = .ok (.goto 4, 3) := by decide +kernel
theorem dX6_readsClause_50 : decode cX6_readsClause 50 = .ok (.iconst 0, 1) := by decide +kernel
theorem dX6_readsClause_51 : decode cX6_readsClause 51 = .ok (.istore_n 2, 1) := by decide +kernel
theorem dX6_readsClause_52 : decode cX6_readsClause 52 = .ok (.iload_n 2, 1) := by decide +kernel
theorem dX6_readsClause_53 : decode cX6_readsClause 53 = .ok (.ifCond .eq 30, 3) := by decide +kernel
theorem dX6_readsClause_56 : decode cX6_readsClause 56 = .ok (.aload_n 0, 1) := by decide +kernel
theorem dX6_readsClause_57 : decode cX6_readsClause 57 = .ok (.iconst 0, 1) := by decide +kernel
theorem dX6_readsClause_58 : decode cX6_readsClause 58 = .ok (.invokevirtual 40, 3) := by decide +kernel
theorem dX6_readsClause_61 : decode cX6_readsClause 61 = .ok (.ifCond .ne 5, 3) := by decide +kernel
theorem dX6_readsClause_64 : decode cX6_readsClause 64 = .ok (.iconst 0, 1) := by decide +kernel
theorem dX6_readsClause_65 : decode cX6_readsClause 65 = .ok (.ireturn, 1) := by decide +kernel
theorem dX6_readsClause_66 : decode cX6_readsClause 66 = .ok (.aload_n 0, 1) := by decide +kernel
theorem dX6_readsClause_67 : decode cX6_readsClause 67 = .ok (.invokevirtual 43, 3) := by decide +kernel
theorem dX6_readsClause_70 : decode cX6_readsClause 70 = .ok (.iconst (-1), 1) := by decide +kernel
theorem dX6_readsClause_71 : decode cX6_readsClause 71 = .ok (.if_icmp .ne 12, 3) := by decide +kernel
theorem dX6_readsClause_74 : decode cX6_readsClause 74 = .ok (.aload_n 0, 1) := by decide +kernel
theorem dX6_readsClause_75 : decode cX6_readsClause 75 = .ok (.bipush 13, 2) := by decide +kernel
theorem dX6_readsClause_77 : decode cX6_readsClause 77 = .ok (.iconst 0, 1) := by decide +kernel
theorem dX6_readsClause_78 : decode cX6_readsClause 78 = .ok (.invokevirtual 46, 3) := by decide +kernel
theorem dX6_readsClause_81 : decode cX6_readsClause 81 = .ok (.iconst 1, 1) := by decide +kernel
theorem dX6_readsClause_82 : decode cX6_readsClause 82 = .ok (.ireturn, 1) := by decide +kernel
theorem dX6_readsClause_83 : decode cX6_readsClause 83 = .ok (.aload_n 0, 1) := by decide +kernel
theorem dX6_readsClause_84 : decode cX6_readsClause 84 = .ok (.iconst 0, 1) := by decide +kernel
theorem dX6_readsClause_85 : decode cX6_readsClause 85 = .ok (.iload_n 2, 1) := by decide +kernel
theorem dX6_readsClause_86 : decode cX6_readsClause 86 = .ok (.invokevirtual 50, 3) := by decide +kernel
theorem dX6_readsClause_89 : decode cX6_readsClause 89 = .ok (.ifCond .eq 15, 3) := by decide +kernel
theorem dX6_readsClause_92 : decode cX6_readsClause 92 = .ok (.aload_n 0, 1) := by decide +kernel
theorem dX6_readsClause_93 : decode cX6_readsClause 93 = .ok (.getfield 15, 3) := by decide +kernel
theorem dX6_readsClause_96 : decode cX6_readsClause 96 = .ok (.bipush 63, 2) := by decide +kernel
theorem dX6_readsClause_98 : decode cX6_readsClause 98 = .ok (.invokevirtual 32, 3) := by decide +kernel
theorem dX6_readsClause_101 : decode cX6_readsClause 101 = .ok (.ifCond .ne 5, 3) := by decide +kernel
theorem dX6_readsClause_104 : decode cX6_readsClause 104 = .ok (.iconst 0, 1) := by decide +kernel
theorem dX6_readsClause_105 : decode cX6_readsClause 105 = .ok (.ireturn, 1) := by decide +kernel
theorem dX6_readsClause_106 : decode cX6_readsClause 106 = .ok (.aload_n 0, 1) := by decide +kernel
theorem dX6_readsClause_107 : decode cX6_readsClause 107 = .ok (.getfield 25, 3) := by decide +kernel
theorem dX6_readsClause_110 : decode cX6_readsClause 110 = .ok (.istore_n 3, 1) := by decide +kernel
theorem dX6_readsClause_111 : decode cX6_readsClause 111 = .ok (.aload_n 0, 1) := by decide +kernel
theorem dX6_readsClause_112 : decode cX6_readsClause 112 = .ok (.bipush 12, 2) := by decide +kernel
theorem dX6_readsClause_114 : decode cX6_readsClause 114 = .ok (.iconst 0, 1) := by decide +kernel
theorem dX6_readsClause_115 : decode cX6_readsClause 115 = .ok (.invokevirtual 46, 3) := by decide +kernel
theorem dX6_readsClause_118 : decode cX6_readsClause 118 = .ok (.aload_n 0, 1) := by decide +kernel
theorem dX6_readsClause_119 : decode cX6_readsClause 119 = .ok (.iconst 0, 1) := by decide +kernel
theorem dX6_readsClause_120 : decode cX6_readsClause 120 = .ok (.invokevirtual 40, 3) := by decide +kernel
theorem dX6_readsClause_123 : decode cX6_readsClause 123 = .ok (.ifCond .ne 5, 3) := by decide +kernel
theorem dX6_readsClause_126 : decode cX6_readsClause 126 = .ok (.iconst 0, 1) := by decide +kernel
theorem dX6_readsClause_127 : decode cX6_readsClause 127 = .ok (.ireturn, 1) := by decide +kernel
theorem dX6_readsClause_128 : decode cX6_readsClause 128 = .ok (.aload_n 0, 1) := by decide +kernel
theorem dX6_readsClause_129 : decode cX6_readsClause 129 = .ok (.bipush 13, 2) := by decide +kernel
theorem dX6_readsClause_131 : decode cX6_readsClause 131 = .ok (.iconst 0, 1) := by decide +kernel
theorem dX6_readsClause_132 : decode cX6_readsClause 132 = .ok (.invokevirtual 46, 3) := by decide +kernel
theorem dX6_readsClause_135 : decode cX6_readsClause 135 = .ok (.iload_n 3, 1) := by decide +kernel
theorem dX6_readsClause_136 : decode cX6_readsClause 136 = .ok (.aload_n 0, 1) := by decide +kernel
theorem dX6_readsClause_137 : decode cX6_readsClause 137 = .ok (.getfield 11, 3) := by decide +kernel
theorem dX6_readsClause_140 : decode cX6_readsClause 140 = .ok (.arraylength, 1) := by decide +kernel
theorem dX6_readsClause_141 : decode cX6_readsClause 141 = .ok (.if_icmp .ge 18, 3) := by decide +kernel
theorem dX6_readsClause_144 : decode cX6_readsClause 144 = .ok (.aload_n 0, 1) := by decide +kernel
theorem dX6_readsClause_145 : decode cX6_readsClause 145 = .ok (.getfield 11, 3) := by decide +kernel
theorem dX6_readsClause_148 : decode cX6_readsClause 148 = .ok (.iload_n 3, 1) := by decide +kernel
theorem dX6_readsClause_149 : decode cX6_readsClause 149 = .ok (.bipush 12, 2) := by decide +kernel
theorem dX6_readsClause_151 : decode cX6_readsClause 151 = .ok (.aload_n 0, 1) := by decide +kernel
theorem dX6_readsClause_152 : decode cX6_readsClause 152 = .ok (.getfield 25, 3) := by decide +kernel
theorem dX6_readsClause_155 : decode cX6_readsClause 155 = .ok (.iconst 4, 1) := by decide +kernel
theorem dX6_readsClause_156 : decode cX6_readsClause 156 = .ok (.ishl, 1) := by decide +kernel
theorem dX6_readsClause_157 : decode cX6_readsClause 157 = .ok (.ior, 1) := by decide +kernel
theorem dX6_readsClause_158 : decode cX6_readsClause 158 = .ok (.iastore, 1) := by decide +kernel
theorem dX6_readsClause_159 : decode cX6_readsClause 159 = .ok (.iconst 1, 1) := by decide +kernel
theorem dX6_readsClause_160 : decode cX6_readsClause 160 = .ok (.ireturn, 1) := by decide +kernel
theorem dX6_readsCondition_0 : decode cX6_readsCondition 0 = .ok (.aload_n 0, 1) := by decide +kernel
theorem dX6_readsCondition_1 : decode cX6_readsCondition 1 = .ok (.iload_n 1, 1) := by decide +kernel
theorem dX6_readsCondition_2 : decode cX6_readsCondition 2 = .ok (.iload_n 2, 1) := by decide +kernel
theorem dX6_readsCondition_3 : decode cX6_readsCondition 3 = .ok (.invokevirtual 54, 3) := by decide +kernel
theorem dX6_readsCondition_6 : decode cX6_readsCondition 6 = .ok (.ifCond .ne 5, 3) := by decide +kernel
theorem dX6_readsCondition_9 : decode cX6_readsCondition 9 = .ok (.iconst 0, 1) := by decide +kernel
theorem dX6_readsCondition_10 : decode cX6_readsCondition 10 = .ok (.ireturn, 1) := by decide +kernel
theorem dX6_readsCondition_11 : decode cX6_readsCondition 11 = .ok (.iconst 0, 1) := by decide +kernel
theorem dX6_readsCondition_12 : decode cX6_readsCondition 12 = .ok (.istore_n 3, 1) := by decide +kernel
theorem dX6_readsCondition_13 : decode cX6_readsCondition 13 = .ok (.iload_n 3, 1) := by decide +kernel
theorem dX6_readsCondition_14 : decode cX6_readsCondition 14 = .ok (.sipush 240, 3) := by decide +kernel
theorem dX6_readsCondition_17 : decode cX6_readsCondition 17 = .ok (.if_icmp .ge 39, 3) := by decide +kernel
theorem dX6_readsCondition_20 : decode cX6_readsCondition 20 = .ok (.aload_n 0, 1) := by decide +kernel
theorem dX6_readsCondition_21 : decode cX6_readsCondition 21 = .ok (.getfield 15, 3) := by decide +kernel
theorem dX6_readsCondition_24 : decode cX6_readsCondition 24 = .ok (.bipush 124, 2) := by decide +kernel
theorem dX6_readsCondition_26 : decode cX6_readsCondition 26 = .ok (.invokevirtual 32, 3) := by decide +kernel
theorem dX6_readsCondition_29 : decode cX6_readsCondition 29 = .ok (.ifCond .eq 27, 3) := by decide +kernel
theorem dX6_readsCondition_32 : decode cX6_readsCondition 32 = .ok (.aload_n 0, 1) := by decide +kernel
theorem dX6_readsCondition_33 : decode cX6_readsCondition 33 = .ok (.iload_n 1, 1) := by decide +kernel
theorem dX6_readsCondition_34 : decode cX6_readsCondition 34 = .ok (.iconst 0, 1) := by decide +kernel
theorem dX6_readsCondition_35 : decode cX6_readsCondition 35 = .ok (.invokevirtual 54, 3) := by decide +kernel
theorem dX6_readsCondition_38 : decode cX6_readsCondition 38 = .ok (.ifCond .ne 5, 3) := by decide +kernel
theorem dX6_readsCondition_41 : decode cX6_readsCondition 41 = .ok (.iconst 0, 1) := by decide +kernel
theorem dX6_readsCondition_42 : decode cX6_readsCondition 42 = .ok (.ireturn, 1) := by decide +kernel
theorem dX6_readsCondition_43 : decode cX6_readsCondition 43 = .ok (.aload_n 0, 1) := by decide +kernel
theorem dX6_readsCondition_44 : decode cX6_readsCondition 44 = .ok (.bipush 11, 2) := by decide +kernel
theorem dX6_readsCondition_46 : decode cX6_readsCondition 46 = .ok (.iconst 0, 1) := by decide +kernel
theorem dX6_readsCondition_47 : decode cX6_readsCondition 47 = .ok (.invokevirtual 46, 3) := by decide +kernel
theorem dX6_readsCondition_50 : decode cX6_readsCondition 50 = .ok (.iinc 3 1, 3) := by decide +kernel
theorem dX6_readsCondition_53 : decode cX6_readsCondition 53 = .ok (.goto (-40), 3) := by decide +kernel
theorem dX6_readsCondition_56 : decode cX6_readsCondition 56 = .ok (.iconst 1, 1) := by decide +kernel
theorem dX6_readsCondition_57 : decode cX6_readsCondition 57 = .ok (.ireturn, 1) := by decide +kernel
theorem dX6_readsTruth_0 : decode cX6_readsTruth 0 = .ok (.aload_n 0, 1) := by decide +kernel
theorem dX6_readsTruth_1 : decode cX6_readsTruth 1 = .ok (.iload_n 1, 1) := by decide +kernel
theorem dX6_readsTruth_2 : decode cX6_readsTruth 2 = .ok (.iload_n 2, 1) := by decide +kernel
theorem dX6_readsTruth_3 : decode cX6_readsTruth 3 = .ok (.invokevirtual 57, 3) := by decide +kernel
theorem dX6_readsTruth_6 : decode cX6_readsTruth 6 = .ok (.ifCond .ne 5, 3) := by decide +kernel
theorem dX6_readsTruth_9 : decode cX6_readsTruth 9 = .ok (.iconst 0, 1) := by decide +kernel
theorem dX6_readsTruth_10 : decode cX6_readsTruth 10 = .ok (.ireturn, 1) := by decide +kernel
theorem dX6_readsTruth_11 : decode cX6_readsTruth 11 = .ok (.iconst 0, 1) := by decide +kernel
theorem dX6_readsTruth_12 : decode cX6_readsTruth 12 = .ok (.istore_n 3, 1) := by decide +kernel
theorem dX6_readsTruth_13 : decode cX6_readsTruth 13 = .ok (.iload_n 3, 1) := by decide +kernel
theorem dX6_readsTruth_14 : decode cX6_readsTruth 14 = .ok (.sipush 240, 3) := by decide +kernel
theorem dX6_readsTruth_17 : decode cX6_readsTruth 17 = .ok (.if_icmp .ge 39, 3) := by decide +kernel
theorem dX6_readsTruth_20 : decode cX6_readsTruth 20 = .ok (.aload_n 0, 1) := by decide +kernel
theorem dX6_readsTruth_21 : decode cX6_readsTruth 21 = .ok (.getfield 15, 3) := by decide +kernel
theorem dX6_readsTruth_24 : decode cX6_readsTruth 24 = .ok (.bipush 38, 2) := by decide +kernel
theorem dX6_readsTruth_26 : decode cX6_readsTruth 26 = .ok (.invokevirtual 32, 3) := by decide +kernel
theorem dX6_readsTruth_29 : decode cX6_readsTruth 29 = .ok (.ifCond .eq 27, 3) := by decide +kernel
theorem dX6_readsTruth_32 : decode cX6_readsTruth 32 = .ok (.aload_n 0, 1) := by decide +kernel
theorem dX6_readsTruth_33 : decode cX6_readsTruth 33 = .ok (.iload_n 1, 1) := by decide +kernel
theorem dX6_readsTruth_34 : decode cX6_readsTruth 34 = .ok (.iconst 0, 1) := by decide +kernel
theorem dX6_readsTruth_35 : decode cX6_readsTruth 35 = .ok (.invokevirtual 57, 3) := by decide +kernel
theorem dX6_readsTruth_38 : decode cX6_readsTruth 38 = .ok (.ifCond .ne 5, 3) := by decide +kernel
theorem dX6_readsTruth_41 : decode cX6_readsTruth 41 = .ok (.iconst 0, 1) := by decide +kernel
theorem dX6_readsTruth_42 : decode cX6_readsTruth 42 = .ok (.ireturn, 1) := by decide +kernel
theorem dX6_readsTruth_43 : decode cX6_readsTruth 43 = .ok (.aload_n 0, 1) := by decide +kernel
theorem dX6_readsTruth_44 : decode cX6_readsTruth 44 = .ok (.bipush 10, 2) := by decide +kernel
theorem dX6_readsTruth_46 : decode cX6_readsTruth 46 = .ok (.iconst 0, 1) := by decide +kernel
theorem dX6_readsTruth_47 : decode cX6_readsTruth 47 = .ok (.invokevirtual 46, 3) := by decide +kernel
theorem dX6_readsTruth_50 : decode cX6_readsTruth 50 = .ok (.iinc 3 1, 3) := by decide +kernel
theorem dX6_readsTruth_53 : decode cX6_readsTruth 53 = .ok (.goto (-40), 3) := by decide +kernel
theorem dX6_readsTruth_56 : decode cX6_readsTruth 56 = .ok (.iconst 1, 1) := by decide +kernel
theorem dX6_readsTruth_57 : decode cX6_readsTruth 57 = .ok (.ireturn, 1) := by decide +kernel
theorem dX6_readsUnit_0 : decode cX6_readsUnit 0 = .ok (.iload_n 2, 1) := by decide +kernel
theorem dX6_readsUnit_1 : decode cX6_readsUnit 1 = .ok (.ifCond .ne 40, 3) := by decide +kernel
theorem dX6_readsUnit_4 : decode cX6_readsUnit 4 = .ok (.aload_n 0, 1) := by decide +kernel
theorem dX6_readsUnit_5 : decode cX6_readsUnit 5 = .ok (.getfield 15, 3) := by decide +kernel
theorem dX6_readsUnit_8 : decode cX6_readsUnit 8 = .ok (.invokevirtual 36, 3) := by decide +kernel
theorem dX6_readsUnit_11 : decode cX6_readsUnit 11 = .ok (.istore_n 3, 1) := by decide +kernel
theorem dX6_readsUnit_12 : decode cX6_readsUnit 12 = .ok (.iload_n 3, 1) := by decide +kernel
theorem dX6_readsUnit_13 : decode cX6_readsUnit 13 = .ok (.bipush 33, 2) := by decide +kernel
theorem dX6_readsUnit_15 : decode cX6_readsUnit 15 = .ok (.if_icmp .eq 9, 3) := by decide +kernel
theorem dX6_readsUnit_18 : decode cX6_readsUnit 18 = .ok (.iload_n 3, 1) := by decide +kernel
theorem dX6_readsUnit_19 : decode cX6_readsUnit 19 = .ok (.bipush 40, 2) := by decide +kernel
theorem dX6_readsUnit_21 : decode cX6_readsUnit 21 = .ok (.if_icmp .ne 10, 3) := by decide +kernel
theorem dX6_readsUnit_24 : decode cX6_readsUnit 24 = .ok (.aload_n 0, 1) := by decide +kernel
theorem dX6_readsUnit_25 : decode cX6_readsUnit 25 = .ok (.iload_n 1, 1) := by decide +kernel
theorem dX6_readsUnit_26 : decode cX6_readsUnit 26 = .ok (.iload_n 3, 1) := by decide +kernel
theorem dX6_readsUnit_27 : decode cX6_readsUnit 27 = .ok (.invokevirtual 60, 3) := by decide +kernel
theorem dX6_readsUnit_30 : decode cX6_readsUnit 30 = .ok (.ireturn, 1) := by decide +kernel
theorem dX6_readsUnit_31 : decode cX6_readsUnit 31 = .ok (.aload_n 0, 1) := by decide +kernel
theorem dX6_readsUnit_32 : decode cX6_readsUnit 32 = .ok (.iload_n 1, 1) := by decide +kernel
theorem dX6_readsUnit_33 : decode cX6_readsUnit 33 = .ok (.invokevirtual 40, 3) := by decide +kernel
theorem dX6_readsUnit_36 : decode cX6_readsUnit 36 = .ok (.ifCond .ne 5, 3) := by decide +kernel
theorem dX6_readsUnit_39 : decode cX6_readsUnit 39 = .ok (.iconst 0, 1) := by decide +kernel
theorem dX6_readsUnit_40 : decode cX6_readsUnit 40 = .ok (.ireturn, 1) := by decide +kernel
theorem dX6_readsUnit_41 : decode cX6_readsUnit 41 = .ok (.aload_n 0, 1) := by decide +kernel
theorem dX6_readsUnit_42 : decode cX6_readsUnit 42 = .ok (.invokevirtual 43, 3) := by decide +kernel
theorem dX6_readsUnit_45 : decode cX6_readsUnit 45 = .ok (.istore_n 3, 1) := by decide +kernel
theorem dX6_readsUnit_46 : decode cX6_readsUnit 46 = .ok (.iload_n 3, 1) := by decide +kernel
theorem dX6_readsUnit_47 : decode cX6_readsUnit 47 = .ok (.iconst (-1), 1) := by decide +kernel
theorem dX6_readsUnit_48 : decode cX6_readsUnit 48 = .ok (.if_icmp .ne 5, 3) := by decide +kernel
theorem dX6_readsUnit_51 : decode cX6_readsUnit 51 = .ok (.iconst 0, 1) := by decide +kernel
theorem dX6_readsUnit_52 : decode cX6_readsUnit 52 = .ok (.ireturn, 1) := by decide +kernel
theorem dX6_readsUnit_53 : decode cX6_readsUnit 53 = .ok (.aload_n 0, 1) := by decide +kernel
theorem dX6_readsUnit_54 : decode cX6_readsUnit 54 = .ok (.getfield 15, 3) := by decide +kernel
theorem dX6_readsUnit_57 : decode cX6_readsUnit 57 = .ok (.dup, 1) := by decide +kernel
theorem dX6_readsUnit_58 : decode cX6_readsUnit 58 = .ok (.getfield 19, 3) := by decide +kernel
theorem dX6_readsUnit_61 : decode cX6_readsUnit 61 = .ok (.iconst 1, 1) := by decide +kernel
theorem dX6_readsUnit_62 : decode cX6_readsUnit 62 = .ok (.iadd, 1) := by decide +kernel
theorem dX6_readsUnit_63 : decode cX6_readsUnit 63 = .ok (.putfield 19, 3) := by decide +kernel
theorem dX6_readsUnit_66 : decode cX6_readsUnit 66 = .ok (.aload_n 0, 1) := by decide +kernel
theorem dX6_readsUnit_67 : decode cX6_readsUnit 67 = .ok (.iload_n 1, 1) := by decide +kernel
theorem dX6_readsUnit_68 : decode cX6_readsUnit 68 = .ok (.invokevirtual 40, 3) := by decide +kernel
theorem dX6_readsUnit_71 : decode cX6_readsUnit 71 = .ok (.ifCond .ne 5, 3) := by decide +kernel
theorem dX6_readsUnit_74 : decode cX6_readsUnit 74 = .ok (.iconst 0, 1) := by decide +kernel
theorem dX6_readsUnit_75 : decode cX6_readsUnit 75 = .ok (.ireturn, 1) := by decide +kernel
theorem dX6_readsUnit_76 : decode cX6_readsUnit 76 = .ok (.aload_n 0, 1) := by decide +kernel
theorem dX6_readsUnit_77 : decode cX6_readsUnit 77 = .ok (.iload_n 3, 1) := by decide +kernel
theorem dX6_readsUnit_78 : decode cX6_readsUnit 78 = .ok (.iconst 0, 1) := by decide +kernel
theorem dX6_readsUnit_79 : decode cX6_readsUnit 79 = .ok (.invokevirtual 46, 3) := by decide +kernel
theorem dX6_readsUnit_82 : decode cX6_readsUnit 82 = .ok (.iconst 1, 1) := by decide +kernel
theorem dX6_readsUnit_83 : decode cX6_readsUnit 83 = .ok (.ireturn, 1) := by decide +kernel
theorem dX6_readsNested_0 : decode cX6_readsNested 0 = .ok (.iload_n 1, 1) := by decide +kernel
theorem dX6_readsNested_1 : decode cX6_readsNested 1 = .ok (.bipush 6, 2) := by decide +kernel
theorem dX6_readsNested_3 : decode cX6_readsNested 3 = .ok (.if_icmp .lt 5, 3) := by decide +kernel
theorem dX6_readsNested_6 : decode cX6_readsNested 6 = .ok (.iconst 0, 1) := by decide +kernel
theorem dX6_readsNested_7 : decode cX6_readsNested 7 = .ok (.ireturn, 1) := by decide +kernel
theorem dX6_readsNested_8 : decode cX6_readsNested 8 = .ok (.aload_n 0, 1) := by decide +kernel
theorem dX6_readsNested_9 : decode cX6_readsNested 9 = .ok (.getfield 15, 3) := by decide +kernel
theorem dX6_readsNested_12 : decode cX6_readsNested 12 = .ok (.dup, 1) := by decide +kernel
theorem dX6_readsNested_13 : decode cX6_readsNested 13 = .ok (.getfield 19, 3) := by decide +kernel
theorem dX6_readsNested_16 : decode cX6_readsNested 16 = .ok (.iconst 1, 1) := by decide +kernel
theorem dX6_readsNested_17 : decode cX6_readsNested 17 = .ok (.iadd, 1) := by decide +kernel
theorem dX6_readsNested_18 : decode cX6_readsNested 18 = .ok (.putfield 19, 3) := by decide +kernel
theorem dX6_readsNested_21 : decode cX6_readsNested 21 = .ok (.iload_n 2, 1) := by decide +kernel
theorem dX6_readsNested_22 : decode cX6_readsNested 22 = .ok (.bipush 40, 2) := by decide +kernel
theorem dX6_readsNested_24 : decode cX6_readsNested 24 = .ok (.if_icmp .ne 32, 3) := by decide +kernel
theorem dX6_readsNested_27 : decode cX6_readsNested 27 = .ok (.aload_n 0, 1) := by decide +kernel
theorem dX6_readsNested_28 : decode cX6_readsNested 28 = .ok (.iload_n 1, 1) := by decide +kernel
theorem dX6_readsNested_29 : decode cX6_readsNested 29 = .ok (.iconst 1, 1) := by decide +kernel
theorem dX6_readsNested_30 : decode cX6_readsNested 30 = .ok (.iadd, 1) := by decide +kernel
theorem dX6_readsNested_31 : decode cX6_readsNested 31 = .ok (.iconst 0, 1) := by decide +kernel
theorem dX6_readsNested_32 : decode cX6_readsNested 32 = .ok (.invokevirtual 50, 3) := by decide +kernel
theorem dX6_readsNested_35 : decode cX6_readsNested 35 = .ok (.ifCond .eq 19, 3) := by decide +kernel
theorem dX6_readsNested_38 : decode cX6_readsNested 38 = .ok (.aload_n 0, 1) := by decide +kernel
theorem dX6_readsNested_39 : decode cX6_readsNested 39 = .ok (.getfield 15, 3) := by decide +kernel
theorem dX6_readsNested_42 : decode cX6_readsNested 42 = .ok (.bipush 41, 2) := by decide +kernel
theorem dX6_readsNested_44 : decode cX6_readsNested 44 = .ok (.invokevirtual 32, 3) := by decide +kernel
theorem dX6_readsNested_47 : decode cX6_readsNested 47 = .ok (.ifCond .eq 7, 3) := by decide +kernel
theorem dX6_readsNested_50 : decode cX6_readsNested 50 = .ok (.iconst 1, 1) := by decide +kernel
theorem dX6_readsNested_51 : decode cX6_readsNested 51 = .ok (.goto 4, 3) := by decide +kernel
theorem dX6_readsNested_54 : decode cX6_readsNested 54 = .ok (.iconst 0, 1) := by decide +kernel
theorem dX6_readsNested_55 : decode cX6_readsNested 55 = .ok (.ireturn, 1) := by decide +kernel
theorem dX6_readsNested_56 : decode cX6_readsNested 56 = .ok (.aload_n 0, 1) := by decide +kernel
theorem dX6_readsNested_57 : decode cX6_readsNested 57 = .ok (.iload_n 1, 1) := by decide +kernel
theorem dX6_readsNested_58 : decode cX6_readsNested 58 = .ok (.iconst 1, 1) := by decide +kernel
theorem dX6_readsNested_59 : decode cX6_readsNested 59 = .ok (.iadd, 1) := by decide +kernel
theorem dX6_readsNested_60 : decode cX6_readsNested 60 = .ok (.iconst 0, 1) := by decide +kernel
theorem dX6_readsNested_61 : decode cX6_readsNested 61 = .ok (.invokevirtual 57, 3) := by decide +kernel
theorem dX6_readsNested_64 : decode cX6_readsNested 64 = .ok (.ifCond .ne 5, 3) := by decide +kernel
theorem dX6_readsNested_67 : decode cX6_readsNested 67 = .ok (.iconst 0, 1) := by decide +kernel
theorem dX6_readsNested_68 : decode cX6_readsNested 68 = .ok (.ireturn, 1) := by decide +kernel
theorem dX6_readsNested_69 : decode cX6_readsNested 69 = .ok (.aload_n 0, 1) := by decide +kernel
theorem dX6_readsNested_70 : decode cX6_readsNested 70 = .ok (.bipush 9, 2) := by decide +kernel
theorem dX6_readsNested_72 : decode cX6_readsNested 72 = .ok (.iconst 0, 1) := by decide +kernel
theorem dX6_readsNested_73 : decode cX6_readsNested 73 = .ok (.invokevirtual 46, 3) := by decide +kernel
theorem dX6_readsNested_76 : decode cX6_readsNested 76 = .ok (.iconst 1, 1) := by decide +kernel
theorem dX6_readsNested_77 : decode cX6_readsNested 77 = .ok (.ireturn, 1) := by decide +kernel
theorem dX6_comparison_0 : decode cX6_comparison 0 = .ok (.aload_n 0, 1) := by decide +kernel
theorem dX6_comparison_1 : decode cX6_comparison 1 = .ok (.getfield 15, 3) := by decide +kernel
theorem dX6_comparison_4 : decode cX6_comparison 4 = .ok (.invokevirtual 36, 3) := by decide +kernel
theorem dX6_comparison_7 : decode cX6_comparison 7 = .ok (.tableswitch 34 60 62 #[28, 25, 31], 25) := by decide +kernel
theorem dX6_comparison_32 : decode cX6_comparison 32 = .ok (.bipush 6, 2) := by decide +kernel
theorem dX6_comparison_34 : decode cX6_comparison 34 = .ok (.ireturn, 1) := by decide +kernel
theorem dX6_comparison_35 : decode cX6_comparison 35 = .ok (.bipush 7, 2) := by decide +kernel
theorem dX6_comparison_37 : decode cX6_comparison 37 = .ok (.ireturn, 1) := by decide +kernel
theorem dX6_comparison_38 : decode cX6_comparison 38 = .ok (.bipush 8, 2) := by decide +kernel
theorem dX6_comparison_40 : decode cX6_comparison 40 = .ok (.ireturn, 1) := by decide +kernel
theorem dX6_comparison_41 : decode cX6_comparison 41 = .ok (.iconst (-1), 1) := by decide +kernel
theorem dX6_comparison_42 : decode cX6_comparison 42 = .ok (.ireturn, 1) := by decide +kernel
theorem dX6_readsSum_0 : decode cX6_readsSum 0 = .ok (.aload_n 0, 1) := by decide +kernel
theorem dX6_readsSum_1 : decode cX6_readsSum 1 = .ok (.iload_n 1, 1) := by decide +kernel
theorem dX6_readsSum_2 : decode cX6_readsSum 2 = .ok (.invokevirtual 64, 3) := by decide +kernel
theorem dX6_readsSum_5 : decode cX6_readsSum 5 = .ok (.ifCond .ne 5, 3) := by decide +kernel
theorem dX6_readsSum_8 : decode cX6_readsSum 8 = .ok (.iconst 0, 1) := by decide +kernel
theorem dX6_readsSum_9 : decode cX6_readsSum 9 = .ok (.ireturn, 1) := by decide +kernel
theorem dX6_readsSum_10 : decode cX6_readsSum 10 = .ok (.iconst 0, 1) := by decide +kernel
theorem dX6_readsSum_11 : decode cX6_readsSum 11 = .ok (.istore_n 2, 1) := by decide +kernel
theorem dX6_readsSum_12 : decode cX6_readsSum 12 = .ok (.iload_n 2, 1) := by decide +kernel
theorem dX6_readsSum_13 : decode cX6_readsSum 13 = .ok (.sipush 240, 3) := by decide +kernel
theorem dX6_readsSum_16 : decode cX6_readsSum 16 = .ok (.if_icmp .ge 70, 3) := by decide +kernel
theorem dX6_readsSum_19 : decode cX6_readsSum 19 = .ok (.aload_n 0, 1) := by decide +kernel
theorem dX6_readsSum_20 : decode cX6_readsSum 20 = .ok (.getfield 15, 3) := by decide +kernel
theorem dX6_readsSum_23 : decode cX6_readsSum 23 = .ok (.invokevirtual 36, 3) := by decide +kernel
theorem dX6_readsSum_26 : decode cX6_readsSum 26 = .ok (.istore_n 3, 1) := by decide +kernel
theorem dX6_readsSum_27 : decode cX6_readsSum 27 = .ok (.iload_n 3, 1) := by decide +kernel
theorem dX6_readsSum_28 : decode cX6_readsSum 28 = .ok (.bipush 43, 2) := by decide +kernel
theorem dX6_readsSum_30 : decode cX6_readsSum 30 = .ok (.if_icmp .eq 11, 3) := by decide +kernel
theorem dX6_readsSum_33 : decode cX6_readsSum 33 = .ok (.iload_n 3, 1) := by decide +kernel
theorem dX6_readsSum_34 : decode cX6_readsSum 34 = .ok (.bipush 45, 2) := by decide +kernel
theorem dX6_readsSum_36 : decode cX6_readsSum 36 = .ok (.if_icmp .eq 5, 3) := by decide +kernel
theorem dX6_readsSum_39 : decode cX6_readsSum 39 = .ok (.iconst 1, 1) := by decide +kernel
theorem dX6_readsSum_40 : decode cX6_readsSum 40 = .ok (.ireturn, 1) := by decide +kernel
theorem dX6_readsSum_41 : decode cX6_readsSum 41 = .ok (.aload_n 0, 1) := by decide +kernel
theorem dX6_readsSum_42 : decode cX6_readsSum 42 = .ok (.getfield 15, 3) := by decide +kernel
theorem dX6_readsSum_45 : decode cX6_readsSum 45 = .ok (.dup, 1) := by decide +kernel
theorem dX6_readsSum_46 : decode cX6_readsSum 46 = .ok (.getfield 19, 3) := by decide +kernel
theorem dX6_readsSum_49 : decode cX6_readsSum 49 = .ok (.iconst 1, 1) := by decide +kernel
theorem dX6_readsSum_50 : decode cX6_readsSum 50 = .ok (.iadd, 1) := by decide +kernel
theorem dX6_readsSum_51 : decode cX6_readsSum 51 = .ok (.putfield 19, 3) := by decide +kernel
theorem dX6_readsSum_54 : decode cX6_readsSum 54 = .ok (.aload_n 0, 1) := by decide +kernel
theorem dX6_readsSum_55 : decode cX6_readsSum 55 = .ok (.iload_n 1, 1) := by decide +kernel
theorem dX6_readsSum_56 : decode cX6_readsSum 56 = .ok (.invokevirtual 64, 3) := by decide +kernel
theorem dX6_readsSum_59 : decode cX6_readsSum 59 = .ok (.ifCond .ne 5, 3) := by decide +kernel
theorem dX6_readsSum_62 : decode cX6_readsSum 62 = .ok (.iconst 0, 1) := by decide +kernel
theorem dX6_readsSum_63 : decode cX6_readsSum 63 = .ok (.ireturn, 1) := by decide +kernel
theorem dX6_readsSum_64 : decode cX6_readsSum 64 = .ok (.aload_n 0, 1) := by decide +kernel
theorem dX6_readsSum_65 : decode cX6_readsSum 65 = .ok (.iload_n 3, 1) := by decide +kernel
theorem dX6_readsSum_66 : decode cX6_readsSum 66 = .ok (.bipush 43, 2) := by decide +kernel
theorem dX6_readsSum_68 : decode cX6_readsSum 68 = .ok (.if_icmp .ne 7, 3) := by decide +kernel
theorem dX6_readsSum_71 : decode cX6_readsSum 71 = .ok (.iconst 2, 1) := by decide +kernel
theorem dX6_readsSum_72 : decode cX6_readsSum 72 = .ok (.goto 4, 3) := by decide +kernel
theorem dX6_readsSum_75 : decode cX6_readsSum 75 = .ok (.iconst 3, 1) := by decide +kernel
theorem dX6_readsSum_76 : decode cX6_readsSum 76 = .ok (.iconst 0, 1) := by decide +kernel
theorem dX6_readsSum_77 : decode cX6_readsSum 77 = .ok (.invokevirtual 46, 3) := by decide +kernel
theorem dX6_readsSum_80 : decode cX6_readsSum 80 = .ok (.iinc 2 1, 3) := by decide +kernel
theorem dX6_readsSum_83 : decode cX6_readsSum 83 = .ok (.goto (-71), 3) := by decide +kernel
theorem dX6_readsSum_86 : decode cX6_readsSum 86 = .ok (.iconst 1, 1) := by decide +kernel
theorem dX6_readsSum_87 : decode cX6_readsSum 87 = .ok (.ireturn, 1) := by decide +kernel
theorem dX6_readsTerm_0 : decode cX6_readsTerm 0 = .ok (.aload_n 0, 1) := by decide +kernel
theorem dX6_readsTerm_1 : decode cX6_readsTerm 1 = .ok (.iload_n 1, 1) := by decide +kernel
theorem dX6_readsTerm_2 : decode cX6_readsTerm 2 = .ok (.invokevirtual 67, 3) := by decide +kernel
theorem dX6_readsTerm_5 : decode cX6_readsTerm 5 = .ok (.ifCond .ne 5, 3) := by decide +kernel
theorem dX6_readsTerm_8 : decode cX6_readsTerm 8 = .ok (.iconst 0, 1) := by decide +kernel
theorem dX6_readsTerm_9 : decode cX6_readsTerm 9 = .ok (.ireturn, 1) := by decide +kernel
theorem dX6_readsTerm_10 : decode cX6_readsTerm 10 = .ok (.iconst 0, 1) := by decide +kernel
theorem dX6_readsTerm_11 : decode cX6_readsTerm 11 = .ok (.istore_n 2, 1) := by decide +kernel
theorem dX6_readsTerm_12 : decode cX6_readsTerm 12 = .ok (.iload_n 2, 1) := by decide +kernel
theorem dX6_readsTerm_13 : decode cX6_readsTerm 13 = .ok (.sipush 240, 3) := by decide +kernel
theorem dX6_readsTerm_16 : decode cX6_readsTerm 16 = .ok (.if_icmp .ge 70, 3) := by decide +kernel
theorem dX6_readsTerm_19 : decode cX6_readsTerm 19 = .ok (.aload_n 0, 1) := by decide +kernel
theorem dX6_readsTerm_20 : decode cX6_readsTerm 20 = .ok (.getfield 15, 3) := by decide +kernel
theorem dX6_readsTerm_23 : decode cX6_readsTerm 23 = .ok (.invokevirtual 36, 3) := by decide +kernel
theorem dX6_readsTerm_26 : decode cX6_readsTerm 26 = .ok (.istore_n 3, 1) := by decide +kernel
theorem dX6_readsTerm_27 : decode cX6_readsTerm 27 = .ok (.iload_n 3, 1) := by decide +kernel
theorem dX6_readsTerm_28 : decode cX6_readsTerm 28 = .ok (.bipush 42, 2) := by decide +kernel
theorem dX6_readsTerm_30 : decode cX6_readsTerm 30 = .ok (.if_icmp .eq 11, 3) := by decide +kernel
theorem dX6_readsTerm_33 : decode cX6_readsTerm 33 = .ok (.iload_n 3, 1) := by decide +kernel
theorem dX6_readsTerm_34 : decode cX6_readsTerm 34 = .ok (.bipush 47, 2) := by decide +kernel
theorem dX6_readsTerm_36 : decode cX6_readsTerm 36 = .ok (.if_icmp .eq 5, 3) := by decide +kernel
theorem dX6_readsTerm_39 : decode cX6_readsTerm 39 = .ok (.iconst 1, 1) := by decide +kernel
theorem dX6_readsTerm_40 : decode cX6_readsTerm 40 = .ok (.ireturn, 1) := by decide +kernel
theorem dX6_readsTerm_41 : decode cX6_readsTerm 41 = .ok (.aload_n 0, 1) := by decide +kernel
theorem dX6_readsTerm_42 : decode cX6_readsTerm 42 = .ok (.getfield 15, 3) := by decide +kernel
theorem dX6_readsTerm_45 : decode cX6_readsTerm 45 = .ok (.dup, 1) := by decide +kernel
theorem dX6_readsTerm_46 : decode cX6_readsTerm 46 = .ok (.getfield 19, 3) := by decide +kernel
theorem dX6_readsTerm_49 : decode cX6_readsTerm 49 = .ok (.iconst 1, 1) := by decide +kernel
theorem dX6_readsTerm_50 : decode cX6_readsTerm 50 = .ok (.iadd, 1) := by decide +kernel
theorem dX6_readsTerm_51 : decode cX6_readsTerm 51 = .ok (.putfield 19, 3) := by decide +kernel
theorem dX6_readsTerm_54 : decode cX6_readsTerm 54 = .ok (.aload_n 0, 1) := by decide +kernel
theorem dX6_readsTerm_55 : decode cX6_readsTerm 55 = .ok (.iload_n 1, 1) := by decide +kernel
theorem dX6_readsTerm_56 : decode cX6_readsTerm 56 = .ok (.invokevirtual 67, 3) := by decide +kernel
theorem dX6_readsTerm_59 : decode cX6_readsTerm 59 = .ok (.ifCond .ne 5, 3) := by decide +kernel
theorem dX6_readsTerm_62 : decode cX6_readsTerm 62 = .ok (.iconst 0, 1) := by decide +kernel
theorem dX6_readsTerm_63 : decode cX6_readsTerm 63 = .ok (.ireturn, 1) := by decide +kernel
theorem dX6_readsTerm_64 : decode cX6_readsTerm 64 = .ok (.aload_n 0, 1) := by decide +kernel
theorem dX6_readsTerm_65 : decode cX6_readsTerm 65 = .ok (.iload_n 3, 1) := by decide +kernel
theorem dX6_readsTerm_66 : decode cX6_readsTerm 66 = .ok (.bipush 42, 2) := by decide +kernel
theorem dX6_readsTerm_68 : decode cX6_readsTerm 68 = .ok (.if_icmp .ne 7, 3) := by decide +kernel
theorem dX6_readsTerm_71 : decode cX6_readsTerm 71 = .ok (.iconst 4, 1) := by decide +kernel
theorem dX6_readsTerm_72 : decode cX6_readsTerm 72 = .ok (.goto 4, 3) := by decide +kernel
theorem dX6_readsTerm_75 : decode cX6_readsTerm 75 = .ok (.iconst 5, 1) := by decide +kernel
theorem dX6_readsTerm_76 : decode cX6_readsTerm 76 = .ok (.iconst 0, 1) := by decide +kernel
theorem dX6_readsTerm_77 : decode cX6_readsTerm 77 = .ok (.invokevirtual 46, 3) := by decide +kernel
theorem dX6_readsTerm_80 : decode cX6_readsTerm 80 = .ok (.iinc 2 1, 3) := by decide +kernel
theorem dX6_readsTerm_83 : decode cX6_readsTerm 83 = .ok (.goto (-71), 3) := by decide +kernel
theorem dX6_readsTerm_86 : decode cX6_readsTerm 86 = .ok (.iconst 1, 1) := by decide +kernel
theorem dX6_readsTerm_87 : decode cX6_readsTerm 87 = .ok (.ireturn, 1) := by decide +kernel
theorem dX6_readsAtom_0 : decode cX6_readsAtom 0 = .ok (.aload_n 0, 1) := by decide +kernel
theorem dX6_readsAtom_1 : decode cX6_readsAtom 1 = .ok (.getfield 15, 3) := by decide +kernel
theorem dX6_readsAtom_4 : decode cX6_readsAtom 4 = .ok (.invokevirtual 36, 3) := by decide +kernel
theorem dX6_readsAtom_7 : decode cX6_readsAtom 7 = .ok (.istore_n 2, 1) := by decide +kernel
theorem dX6_readsAtom_8 : decode cX6_readsAtom 8 = .ok (.iload_n 2, 1) := by decide +kernel
theorem dX6_readsAtom_9 : decode cX6_readsAtom 9 = .ok (.bipush 91, 2) := by decide +kernel
theorem dX6_readsAtom_11 : decode cX6_readsAtom 11 = .ok (.if_icmp .ne 52, 3) := by decide +kernel
theorem dX6_readsAtom_14 : decode cX6_readsAtom 14 = .ok (.iload_n 1, 1) := by decide +kernel
theorem dX6_readsAtom_15 : decode cX6_readsAtom 15 = .ok (.bipush 6, 2) := by decide +kernel
theorem dX6_readsAtom_17 : decode cX6_readsAtom 17 = .ok (.if_icmp .lt 5, 3) := by decide +kernel
theorem dX6_readsAtom_20 : decode cX6_readsAtom 20 = .ok (.iconst 0, 1) := by decide +kernel
theorem dX6_readsAtom_21 : decode cX6_readsAtom 21 = .ok (.ireturn, 1) := by decide +kernel
theorem dX6_readsAtom_22 : decode cX6_readsAtom 22 = .ok (.aload_n 0, 1) := by decide +kernel
theorem dX6_readsAtom_23 : decode cX6_readsAtom 23 = .ok (.getfield 15, 3) := by decide +kernel
theorem dX6_readsAtom_26 : decode cX6_readsAtom 26 = .ok (.dup, 1) := by decide +kernel
theorem dX6_readsAtom_27 : decode cX6_readsAtom 27 = .ok (.getfield 19, 3) := by decide +kernel
theorem dX6_readsAtom_30 : decode cX6_readsAtom 30 = .ok (.iconst 1, 1) := by decide +kernel
theorem dX6_readsAtom_31 : decode cX6_readsAtom 31 = .ok (.iadd, 1) := by decide +kernel
theorem dX6_readsAtom_32 : decode cX6_readsAtom 32 = .ok (.putfield 19, 3) := by decide +kernel
theorem dX6_readsAtom_35 : decode cX6_readsAtom 35 = .ok (.aload_n 0, 1) := by decide +kernel
theorem dX6_readsAtom_36 : decode cX6_readsAtom 36 = .ok (.iload_n 1, 1) := by decide +kernel
theorem dX6_readsAtom_37 : decode cX6_readsAtom 37 = .ok (.iconst 1, 1) := by decide +kernel
theorem dX6_readsAtom_38 : decode cX6_readsAtom 38 = .ok (.iadd, 1) := by decide +kernel
theorem dX6_readsAtom_39 : decode cX6_readsAtom 39 = .ok (.invokevirtual 40, 3) := by decide +kernel
theorem dX6_readsAtom_42 : decode cX6_readsAtom 42 = .ok (.ifCond .eq 19, 3) := by decide +kernel
theorem dX6_readsAtom_45 : decode cX6_readsAtom 45 = .ok (.aload_n 0, 1) := by decide +kernel
theorem dX6_readsAtom_46 : decode cX6_readsAtom 46 = .ok (.getfield 15, 3) := by decide +kernel
theorem dX6_readsAtom_49 : decode cX6_readsAtom 49 = .ok (.bipush 93, 2) := by decide +kernel
theorem dX6_readsAtom_51 : decode cX6_readsAtom 51 = .ok (.invokevirtual 32, 3) := by decide +kernel
theorem dX6_readsAtom_54 : decode cX6_readsAtom 54 = .ok (.ifCond .eq 7, 3) := by decide +kernel
theorem dX6_readsAtom_57 : decode cX6_readsAtom 57 = .ok (.iconst 1, 1) := by decide +kernel
theorem dX6_readsAtom_58 : decode cX6_readsAtom 58 = .ok (.goto 4, 3) := by decide +kernel
theorem dX6_readsAtom_61 : decode cX6_readsAtom 61 = .ok (.iconst 0, 1) := by decide +kernel
theorem dX6_readsAtom_62 : decode cX6_readsAtom 62 = .ok (.ireturn, 1) := by decide +kernel
theorem dX6_readsAtom_63 : decode cX6_readsAtom 63 = .ok (.iconst 0, 1) := by decide +kernel
theorem dX6_readsAtom_64 : decode cX6_readsAtom 64 = .ok (.istore_n 3, 1) := by decide +kernel
theorem dX6_readsAtom_65 : decode cX6_readsAtom 65 = .ok (.iload_n 3, 1) := by decide +kernel
theorem dX6_readsAtom_66 : decode cX6_readsAtom 66 = .ok (.getstatic 70, 3) := by decide +kernel
theorem dX6_readsAtom_69 : decode cX6_readsAtom 69 = .ok (.arraylength, 1) := by decide +kernel
theorem dX6_readsAtom_70 : decode cX6_readsAtom 70 = .ok (.if_icmp .ge 39, 3) := by decide +kernel
theorem dX6_readsAtom_73 : decode cX6_readsAtom 73 = .ok (.getstatic 70, 3) := by decide +kernel
theorem dX6_readsAtom_76 : decode cX6_readsAtom 76 = .ok (.iload_n 3, 1) := by decide +kernel
theorem dX6_readsAtom_77 : decode cX6_readsAtom 77 = .ok (.caload, 1) := by decide +kernel
theorem dX6_readsAtom_78 : decode cX6_readsAtom 78 = .ok (.iload_n 2, 1) := by decide +kernel
theorem dX6_readsAtom_79 : decode cX6_readsAtom 79 = .ok (.if_icmp .ne 24, 3) := by decide +kernel
theorem dX6_readsAtom_82 : decode cX6_readsAtom 82 = .ok (.aload_n 0, 1) := by decide +kernel
theorem dX6_readsAtom_83 : decode cX6_readsAtom 83 = .ok (.getfield 15, 3) := by decide +kernel
theorem dX6_readsAtom_86 : decode cX6_readsAtom 86 = .ok (.dup, 1) := by decide +kernel
theorem dX6_readsAtom_87 : decode cX6_readsAtom 87 = .ok (.getfield 19, 3) := by decide +kernel
theorem dX6_readsAtom_90 : decode cX6_readsAtom 90 = .ok (.iconst 1, 1) := by decide +kernel
theorem dX6_readsAtom_91 : decode cX6_readsAtom 91 = .ok (.iadd, 1) := by decide +kernel
theorem dX6_readsAtom_92 : decode cX6_readsAtom 92 = .ok (.putfield 19, 3) := by decide +kernel
theorem dX6_readsAtom_95 : decode cX6_readsAtom 95 = .ok (.aload_n 0, 1) := by decide +kernel
theorem dX6_readsAtom_96 : decode cX6_readsAtom 96 = .ok (.iconst 1, 1) := by decide +kernel
theorem dX6_readsAtom_97 : decode cX6_readsAtom 97 = .ok (.iload_n 3, 1) := by decide +kernel
theorem dX6_readsAtom_98 : decode cX6_readsAtom 98 = .ok (.invokevirtual 46, 3) := by decide +kernel
theorem dX6_readsAtom_101 : decode cX6_readsAtom 101 = .ok (.iconst 1, 1) := by decide +kernel
theorem dX6_readsAtom_102 : decode cX6_readsAtom 102 = .ok (.ireturn, 1) := by decide +kernel
theorem dX6_readsAtom_103 : decode cX6_readsAtom 103 = .ok (.iinc 3 1, 3) := by decide +kernel
theorem dX6_readsAtom_106 : decode cX6_readsAtom 106 = .ok (.goto (-41), 3) := by decide +kernel
theorem dX6_readsAtom_109 : decode cX6_readsAtom 109 = .ok (.aload_n 0, 1) := by decide +kernel
theorem dX6_readsAtom_110 : decode cX6_readsAtom 110 = .ok (.getfield 15, 3) := by decide +kernel
theorem dX6_readsAtom_113 : decode cX6_readsAtom 113 = .ok (.iconst 4, 1) := by decide +kernel
theorem dX6_readsAtom_114 : decode cX6_readsAtom 114 = .ok (.invokevirtual 74, 3) := by decide +kernel
theorem dX6_readsAtom_117 : decode cX6_readsAtom 117 = .ok (.ifCond .ne 5, 3) := by decide +kernel
theorem dX6_readsAtom_120 : decode cX6_readsAtom 120 = .ok (.iconst 0, 1) := by decide +kernel
theorem dX6_readsAtom_121 : decode cX6_readsAtom 121 = .ok (.ireturn, 1) := by decide +kernel
theorem dX6_readsAtom_122 : decode cX6_readsAtom 122 = .ok (.aload_n 0, 1) := by decide +kernel
theorem dX6_readsAtom_123 : decode cX6_readsAtom 123 = .ok (.iconst 0, 1) := by decide +kernel
theorem dX6_readsAtom_124 : decode cX6_readsAtom 124 = .ok (.aload_n 0, 1) := by decide +kernel
theorem dX6_readsAtom_125 : decode cX6_readsAtom 125 = .ok (.getfield 15, 3) := by decide +kernel
theorem dX6_readsAtom_128 : decode cX6_readsAtom 128 = .ok (.getfield 77, 3) := by decide +kernel
theorem dX6_readsAtom_131 : decode cX6_readsAtom 131 = .ok (.invokevirtual 46, 3) := by decide +kernel
theorem dX6_readsAtom_134 : decode cX6_readsAtom 134 = .ok (.iconst 1, 1) := by decide +kernel
theorem dX6_readsAtom_135 : decode cX6_readsAtom 135 = .ok (.ireturn, 1) := by decide +kernel
theorem dX6_put_0 : decode cX6_put 0 = .ok (.aload_n 0, 1) := by decide +kernel
theorem dX6_put_1 : decode cX6_put 1 = .ok (.getfield 25, 3) := by decide +kernel
theorem dX6_put_4 : decode cX6_put 4 = .ok (.aload_n 0, 1) := by decide +kernel
theorem dX6_put_5 : decode cX6_put 5 = .ok (.getfield 11, 3) := by decide +kernel
theorem dX6_put_8 : decode cX6_put 8 = .ok (.arraylength, 1) := by decide +kernel
theorem dX6_put_9 : decode cX6_put 9 = .ok (.if_icmp .ge 27, 3) := by decide +kernel
theorem dX6_put_12 : decode cX6_put 12 = .ok (.aload_n 0, 1) := by decide +kernel
theorem dX6_put_13 : decode cX6_put 13 = .ok (.getfield 11, 3) := by decide +kernel
theorem dX6_put_16 : decode cX6_put 16 = .ok (.aload_n 0, 1) := by decide +kernel
theorem dX6_put_17 : decode cX6_put 17 = .ok (.getfield 25, 3) := by decide +kernel
theorem dX6_put_20 : decode cX6_put 20 = .ok (.iload_n 1, 1) := by decide +kernel
theorem dX6_put_21 : decode cX6_put 21 = .ok (.iload_n 2, 1) := by decide +kernel
theorem dX6_put_22 : decode cX6_put 22 = .ok (.iconst 4, 1) := by decide +kernel
theorem dX6_put_23 : decode cX6_put 23 = .ok (.ishl, 1) := by decide +kernel
theorem dX6_put_24 : decode cX6_put 24 = .ok (.ior, 1) := by decide +kernel
theorem dX6_put_25 : decode cX6_put 25 = .ok (.iastore, 1) := by decide +kernel
theorem dX6_put_26 : decode cX6_put 26 = .ok (.aload_n 0, 1) := by decide +kernel
theorem dX6_put_27 : decode cX6_put 27 = .ok (.dup, 1) := by decide +kernel
theorem dX6_put_28 : decode cX6_put 28 = .ok (.getfield 25, 3) := by decide +kernel
theorem dX6_put_31 : decode cX6_put 31 = .ok (.iconst 1, 1) := by decide +kernel
theorem dX6_put_32 : decode cX6_put 32 = .ok (.iadd, 1) := by decide +kernel
theorem dX6_put_33 : decode cX6_put 33 = .ok (.putfield 25, 3) := by decide +kernel
theorem dX6_put_36 : decode cX6_put 36 = .ok (.return_, 1) := by decide +kernel
theorem dX7_init_0 : decode cX7_init 0 = .ok (.aload_n 0, 1) := by decide +kernel
theorem dX7_init_1 : decode cX7_init 1 = .ok (.invokespecial 3, 3) := by decide +kernel
theorem dX7_init_4 : decode cX7_init 4 = .ok (.aload_n 0, 1) := by decide +kernel
theorem dX7_init_5 : decode cX7_init 5 = .ok (.sipush 960, 3) := by decide +kernel
theorem dX7_init_8 : decode cX7_init 8 = .ok (.newarray .int, 2) := by decide +kernel
theorem dX7_init_10 : decode cX7_init 10 = .ok (.putfield 11, 3) := by decide +kernel
theorem dX7_init_13 : decode cX7_init 13 = .ok (.aload_n 0, 1) := by decide +kernel
theorem dX7_init_14 : decode cX7_init 14 = .ok (.iconst 4, 1) := by decide +kernel
theorem dX7_init_15 : decode cX7_init 15 = .ok (.newarray .int, 2) := by decide +kernel
theorem dX7_init_17 : decode cX7_init 17 = .ok (.putfield 17, 3) := by decide +kernel
theorem dX7_init_20 : decode cX7_init 20 = .ok (.aload_n 0, 1) := by decide +kernel
theorem dX7_init_21 : decode cX7_init 21 = .ok (.bipush 6, 2) := by decide +kernel
theorem dX7_init_23 : decode cX7_init 23 = .ok (.newarray .int, 2) := by decide +kernel
theorem dX7_init_25 : decode cX7_init 25 = .ok (.putfield 20, 3) := by decide +kernel
theorem dX7_init_28 : decode cX7_init 28 = .ok (.aload_n 0, 1) := by decide +kernel
theorem dX7_init_29 : decode cX7_init 29 = .ok (.bipush 64, 2) := by decide +kernel
theorem dX7_init_31 : decode cX7_init 31 = .ok (.newarray .int, 2) := by decide +kernel
theorem dX7_init_33 : decode cX7_init 33 = .ok (.putfield 23, 3) := by decide +kernel
theorem dX7_init_36 : decode cX7_init 36 = .ok (.aload_n 0, 1) := by decide +kernel
theorem dX7_init_37 : decode cX7_init 37 = .ok (.iconst (-1), 1) := by decide +kernel
theorem dX7_init_38 : decode cX7_init 38 = .ok (.putfield 26, 3) := by decide +kernel
theorem dX7_init_41 : decode cX7_init 41 = .ok (.return_, 1) := by decide +kernel
theorem dX7_add_0 : decode cX7_add 0 = .ok (.aload_n 0, 1) := by decide +kernel
theorem dX7_add_1 : decode cX7_add 1 = .ok (.getfield 30, 3) := by decide +kernel
theorem dX7_add_4 : decode cX7_add 4 = .ok (.iconst 4, 1) := by decide +kernel
theorem dX7_add_5 : decode cX7_add 5 = .ok (.if_icmp .lt 5, 3) := by decide +kernel
theorem dX7_add_8 : decode cX7_add 8 = .ok (.iconst (-1), 1) := by decide +kernel
theorem dX7_add_9 : decode cX7_add 9 = .ok (.ireturn, 1) := by decide +kernel
theorem dX7_add_10 : decode cX7_add 10 = .ok (.aload_n 1, 1) := by decide +kernel
theorem dX7_add_11 : decode cX7_add 11 = .ok (.getfield 33, 3) := by decide +kernel
theorem dX7_add_14 : decode cX7_add 14 = .ok (.iconst 0, 1) := by decide +kernel
theorem dX7_add_15 : decode cX7_add 15 = .ok (.aload_n 0, 1) := by decide +kernel
theorem dX7_add_16 : decode cX7_add 16 = .ok (.getfield 11, 3) := by decide +kernel
theorem dX7_add_19 : decode cX7_add 19 = .ok (.aload_n 0, 1) := by decide +kernel
theorem dX7_add_20 : decode cX7_add 20 = .ok (.getfield 30, 3) := by decide +kernel
theorem dX7_add_23 : decode cX7_add 23 = .ok (.sipush 240, 3) := by decide +kernel
theorem dX7_add_26 : decode cX7_add 26 = .ok (.imul, 1) := by decide +kernel
theorem dX7_add_27 : decode cX7_add 27 = .ok (.aload_n 1, 1) := by decide +kernel
theorem dX7_add_28 : decode cX7_add 28 = .ok (.getfield 34, 3) := by decide +kernel
theorem dX7_add_31 : decode cX7_add 31 = .ok (.invokestatic 37, 3) := by decide +kernel
theorem dX7_add_34 : decode cX7_add 34 = .ok (.aload_n 0, 1) := by decide +kernel
theorem dX7_add_35 : decode cX7_add 35 = .ok (.getfield 17, 3) := by decide +kernel
theorem dX7_add_38 : decode cX7_add 38 = .ok (.aload_n 0, 1) := by decide +kernel
theorem dX7_add_39 : decode cX7_add 39 = .ok (.getfield 30, 3) := by decide +kernel
theorem dX7_add_42 : decode cX7_add 42 = .ok (.aload_n 1, 1) := by decide +kernel
theorem dX7_add_43 : decode cX7_add 43 = .ok (.getfield 34, 3) := by decide +kernel
theorem dX7_add_46 : decode cX7_add 46 = .ok (.iastore, 1) := by decide +kernel
theorem dX7_add_47 : decode cX7_add 47 = .ok (.aload_n 0, 1) := by decide +kernel
theorem dX7_add_48 : decode cX7_add 48 = .ok (.dup, 1) := by decide +kernel
theorem dX7_add_49 : decode cX7_add 49 = .ok (.getfield 30, 3) := by decide +kernel
theorem dX7_add_52 : decode cX7_add 52 = .ok (.iconst 1, 1) := by decide +kernel
theorem dX7_add_53 : decode cX7_add 53 = .ok (.iadd, 1) := by decide +kernel
theorem dX7_add_54 : decode cX7_add 54 = .ok (.putfield 30, 3) := by decide +kernel
theorem dX7_add_57 : decode cX7_add 57 = .ok (.aload_n 0, 1) := by decide +kernel
theorem dX7_add_58 : decode cX7_add 58 = .ok (.getfield 30, 3) := by decide +kernel
theorem dX7_add_61 : decode cX7_add 61 = .ok (.iconst 1, 1) := by decide +kernel
theorem dX7_add_62 : decode cX7_add 62 = .ok (.isub, 1) := by decide +kernel
theorem dX7_add_63 : decode cX7_add 63 = .ok (.ireturn, 1) := by decide +kernel
theorem dX7_readBears_0 : decode cX7_readBears 0 = .ok (.iconst 0, 1) := by decide +kernel
theorem dX7_readBears_1 : decode cX7_readBears 1 = .ok (.istore_n 1, 1) := by decide +kernel
theorem dX7_readBears_2 : decode cX7_readBears 2 = .ok (.aload_n 0, 1) := by decide +kernel
theorem dX7_readBears_3 : decode cX7_readBears 3 = .ok (.getfield 26, 3) := by decide +kernel
theorem dX7_readBears_6 : decode cX7_readBears 6 = .ok (.ifCond .lt 55, 3) := by decide +kernel
theorem dX7_readBears_9 : decode cX7_readBears 9 = .ok (.aload_n 0, 1) := by decide +kernel
theorem dX7_readBears_10 : decode cX7_readBears 10 = .ok (.getfield 26, 3) := by decide +kernel
theorem dX7_readBears_13 : decode cX7_readBears 13 = .ok (.aload_n 0, 1) := by decide +kernel
theorem dX7_readBears_14 : decode cX7_readBears 14 = .ok (.getfield 30, 3) := by decide +kernel
theorem dX7_readBears_17 : decode cX7_readBears 17 = .ok (.if_icmp .ge 44, 3) := by decide +kernel
theorem dX7_readBears_20 : decode cX7_readBears 20 = .ok (.iload_n 1, 1) := by decide +kernel
theorem dX7_readBears_21 : decode cX7_readBears 21 = .ok (.aload_n 0, 1) := by decide +kernel
theorem dX7_readBears_22 : decode cX7_readBears 22 = .ok (.getfield 17, 3) := by decide +kernel
theorem dX7_readBears_25 : decode cX7_readBears 25 = .ok (.aload_n 0, 1) := by decide +kernel
theorem dX7_readBears_26 : decode cX7_readBears 26 = .ok (.getfield 26, 3) := by decide +kernel
theorem dX7_readBears_29 : decode cX7_readBears 29 = .ok (.iaload, 1) := by decide +kernel
theorem dX7_readBears_30 : decode cX7_readBears 30 = .ok (.if_icmp .ge 31, 3) := by decide +kernel
theorem dX7_readBears_33 : decode cX7_readBears 33 = .ok (.aload_n 0, 1) := by decide +kernel
theorem dX7_readBears_34 : decode cX7_readBears 34 = .ok (.getfield 11, 3) := by decide +kernel
theorem dX7_readBears_37 : decode cX7_readBears 37 = .ok (.aload_n 0, 1) := by decide +kernel
theorem dX7_readBears_38 : decode cX7_readBears 38 = .ok (.getfield 26, 3) := by decide +kernel
theorem dX7_readBears_41 : decode cX7_readBears 41 = .ok (.sipush 240, 3) := by decide +kernel
theorem dX7_readBears_44 : decode cX7_readBears 44 = .ok (.imul, 1) := by decide +kernel
theorem dX7_readBears_45 : decode cX7_readBears 45 = .ok (.iload_n 1, 1) := by decide +kernel
theorem dX7_readBears_46 : decode cX7_readBears 46 = .ok (.iadd, 1) := by decide +kernel
theorem dX7_readBears_47 : decode cX7_readBears 47 = .ok (.iaload, 1) := by decide +kernel
theorem dX7_readBears_48 : decode cX7_readBears 48 = .ok (.bipush 33, 2) := by decide +kernel
theorem dX7_readBears_50 : decode cX7_readBears 50 = .ok (.if_icmp .ne 5, 3) := by decide +kernel
theorem dX7_readBears_53 : decode cX7_readBears 53 = .ok (.iconst 1, 1) := by decide +kernel
theorem dX7_readBears_54 : decode cX7_readBears 54 = .ok (.ireturn, 1) := by decide +kernel
theorem dX7_readBears_55 : decode cX7_readBears 55 = .ok (.iinc 1 1, 3) := by decide +kernel
theorem dX7_readBears_58 : decode cX7_readBears 58 = .ok (.goto (-56), 3) := by decide +kernel
theorem dX7_readBears_61 : decode cX7_readBears 61 = .ok (.iconst 0, 1) := by decide +kernel
theorem dX7_readBears_62 : decode cX7_readBears 62 = .ok (.ireturn, 1) := by decide +kernel
theorem dX7_tell_0 : decode cX7_tell 0 = .ok (.aload_n 0, 1) := by decide +kernel
theorem dX7_tell_1 : decode cX7_tell 1 = .ok (.getfield 20, 3) := by decide +kernel
theorem dX7_tell_4 : decode cX7_tell 4 = .ok (.iconst 0, 1) := by decide +kernel
theorem dX7_tell_5 : decode cX7_tell 5 = .ok (.iload_n 1, 1) := by decide +kernel
theorem dX7_tell_6 : decode cX7_tell 6 = .ok (.iastore, 1) := by decide +kernel
theorem dX7_tell_7 : decode cX7_tell 7 = .ok (.aload_n 0, 1) := by decide +kernel
theorem dX7_tell_8 : decode cX7_tell 8 = .ok (.getfield 20, 3) := by decide +kernel
theorem dX7_tell_11 : decode cX7_tell 11 = .ok (.iconst 1, 1) := by decide +kernel
theorem dX7_tell_12 : decode cX7_tell 12 = .ok (.iload_n 2, 1) := by decide +kernel
theorem dX7_tell_13 : decode cX7_tell 13 = .ok (.iastore, 1) := by decide +kernel
theorem dX7_tell_14 : decode cX7_tell 14 = .ok (.aload_n 0, 1) := by decide +kernel
theorem dX7_tell_15 : decode cX7_tell 15 = .ok (.getfield 20, 3) := by decide +kernel
theorem dX7_tell_18 : decode cX7_tell 18 = .ok (.iconst 2, 1) := by decide +kernel
theorem dX7_tell_19 : decode cX7_tell 19 = .ok (.iload_n 3, 1) := by decide +kernel
theorem dX7_tell_20 : decode cX7_tell 20 = .ok (.iastore, 1) := by decide +kernel
theorem dX7_tell_21 : decode cX7_tell 21 = .ok (.aload_n 0, 1) := by decide +kernel
theorem dX7_tell_22 : decode cX7_tell 22 = .ok (.getfield 20, 3) := by decide +kernel
theorem dX7_tell_25 : decode cX7_tell 25 = .ok (.iconst 3, 1) := by decide +kernel
theorem dX7_tell_26 : decode cX7_tell 26 = .ok (.iload 4, 2) := by decide +kernel
theorem dX7_tell_28 : decode cX7_tell 28 = .ok (.iastore, 1) := by decide +kernel
theorem dX7_tell_29 : decode cX7_tell 29 = .ok (.aload_n 0, 1) := by decide +kernel
theorem dX7_tell_30 : decode cX7_tell 30 = .ok (.getfield 20, 3) := by decide +kernel
theorem dX7_tell_33 : decode cX7_tell 33 = .ok (.iconst 4, 1) := by decide +kernel
theorem dX7_tell_34 : decode cX7_tell 34 = .ok (.iload 5, 2) := by decide +kernel
theorem dX7_tell_36 : decode cX7_tell 36 = .ok (.iastore, 1) := by decide +kernel
theorem dX7_tell_37 : decode cX7_tell 37 = .ok (.aload_n 0, 1) := by decide +kernel
theorem dX7_tell_38 : decode cX7_tell 38 = .ok (.getfield 20, 3) := by decide +kernel
theorem dX7_tell_41 : decode cX7_tell 41 = .ok (.iconst 5, 1) := by decide +kernel
theorem dX7_tell_42 : decode cX7_tell 42 = .ok (.iload 6, 2) := by decide +kernel
theorem dX7_tell_44 : decode cX7_tell 44 = .ok (.iastore, 1) := by decide +kernel
theorem dX7_tell_45 : decode cX7_tell 45 = .ok (.return_, 1) := by decide +kernel
theorem dX7_worth_0 : decode cX7_worth 0 = .ok (.aload_n 0, 1) := by decide +kernel
theorem dX7_worth_1 : decode cX7_worth 1 = .ok (.getfield 26, 3) := by decide +kernel
theorem dX7_worth_4 : decode cX7_worth 4 = .ok (.ifCond .lt 14, 3) := by decide +kernel
theorem dX7_worth_7 : decode cX7_worth 7 = .ok (.aload_n 0, 1) := by decide +kernel
theorem dX7_worth_8 : decode cX7_worth 8 = .ok (.getfield 26, 3) := by decide +kernel
theorem dX7_worth_11 : decode cX7_worth 11 = .ok (.aload_n 0, 1) := by decide +kernel
theorem dX7_worth_12 : decode cX7_worth 12 = .ok (.getfield 30, 3) := by decide +kernel
theorem dX7_worth_15 : decode cX7_worth 15 = .ok (.if_icmp .lt 5, 3) := by decide +kernel
theorem dX7_worth_18 : decode cX7_worth 18 = .ok (.iconst 0, 1) := by decide +kernel
theorem dX7_worth_19 : decode cX7_worth 19 = .ok (.ireturn, 1) := by decide +kernel
theorem dX7_worth_20 : decode cX7_worth 20 = .ok (.aload_n 0, 1) := by decide +kernel
theorem dX7_worth_21 : decode cX7_worth 21 = .ok (.getfield 26, 3) := by decide +kernel
theorem dX7_worth_24 : decode cX7_worth 24 = .ok (.sipush 240, 3) := by decide +kernel
theorem dX7_worth_27 : decode cX7_worth 27 = .ok (.imul, 1) := by decide +kernel
theorem dX7_worth_28 : decode cX7_worth 28 = .ok (.istore_n 1, 1) := by decide +kernel
theorem dX7_worth_29 : decode cX7_worth 29 = .ok (.aload_n 0, 1) := by decide +kernel
theorem dX7_worth_30 : decode cX7_worth 30 = .ok (.iconst 0, 1) := by decide +kernel
theorem dX7_worth_31 : decode cX7_worth 31 = .ok (.putfield 43, 3) := by decide +kernel
theorem dX7_worth_34 : decode cX7_worth 34 = .ok (.iconst 0, 1) := by decide +kernel
theorem dX7_worth_35 : decode cX7_worth 35 = .ok (.istore_n 2, 1) := by decide +kernel
theorem dX7_worth_36 : decode cX7_worth 36 = .ok (.iload_n 2, 1) := by decide +kernel
theorem dX7_worth_37 : decode cX7_worth 37 = .ok (.aload_n 0, 1) := by decide +kernel
theorem dX7_worth_38 : decode cX7_worth 38 = .ok (.getfield 17, 3) := by decide +kernel
theorem dX7_worth_41 : decode cX7_worth 41 = .ok (.aload_n 0, 1) := by decide +kernel
theorem dX7_worth_42 : decode cX7_worth 42 = .ok (.getfield 26, 3) := by decide +kernel
theorem dX7_worth_45 : decode cX7_worth 45 = .ok (.iaload, 1) := by decide +kernel
theorem dX7_worth_46 : decode cX7_worth 46 = .ok (.if_icmp .ge 162, 3) := by decide +kernel
theorem dX7_worth_49 : decode cX7_worth 49 = .ok (.aload_n 0, 1) := by decide +kernel
theorem dX7_worth_50 : decode cX7_worth 50 = .ok (.getfield 11, 3) := by decide +kernel
theorem dX7_worth_53 : decode cX7_worth 53 = .ok (.iload_n 1, 1) := by decide +kernel
theorem dX7_worth_54 : decode cX7_worth 54 = .ok (.iload_n 2, 1) := by decide +kernel
theorem dX7_worth_55 : decode cX7_worth 55 = .ok (.iadd, 1) := by decide +kernel
theorem dX7_worth_56 : decode cX7_worth 56 = .ok (.iaload, 1) := by decide +kernel
theorem dX7_worth_57 : decode cX7_worth 57 = .ok (.bipush 15, 2) := by decide +kernel
theorem dX7_worth_59 : decode cX7_worth 59 = .ok (.iand, 1) := by decide +kernel
theorem dX7_worth_60 : decode cX7_worth 60 = .ok (.istore_n 3, 1) := by decide +kernel
theorem dX7_worth_61 : decode cX7_worth 61 = .ok (.aload_n 0, 1) := by decide +kernel
theorem dX7_worth_62 : decode cX7_worth 62 = .ok (.getfield 11, 3) := by decide +kernel
theorem dX7_worth_65 : decode cX7_worth 65 = .ok (.iload_n 1, 1) := by decide +kernel
theorem dX7_worth_66 : decode cX7_worth 66 = .ok (.iload_n 2, 1) := by decide +kernel
theorem dX7_worth_67 : decode cX7_worth 67 = .ok (.iadd, 1) := by decide +kernel
theorem dX7_worth_68 : decode cX7_worth 68 = .ok (.iaload, 1) := by decide +kernel
theorem dX7_worth_69 : decode cX7_worth 69 = .ok (.iconst 4, 1) := by decide +kernel
theorem dX7_worth_70 : decode cX7_worth 70 = .ok (.ishr, 1) := by decide +kernel
theorem dX7_worth_71 : decode cX7_worth 71 = .ok (.istore 4, 2) := by decide +kernel
theorem dX7_worth_73 : decode cX7_worth 73 = .ok (.iload_n 3, 1) := by decide +kernel
theorem dX7_worth_74 : decode cX7_worth 74 = .ok (.bipush 13, 2) := by decide +kernel
theorem dX7_worth_76 : decode cX7_worth 76 = .ok (.if_icmp .ne 8, 3) := by decide +kernel
theorem dX7_worth_79 : decode cX7_worth 79 = .ok (.aload_n 0, 1) := by decide +kernel
theorem dX7_worth_80 : decode cX7_worth 80 = .ok (.invokevirtual 46, 3) := by decide +kernel
theorem dX7_worth_83 : decode cX7_worth 83 = .ok (.ireturn, 1) := by decide +kernel
theorem dX7_worth_84 : decode cX7_worth 84 = .ok (.iload_n 3, 1) := by decide +kernel
theorem dX7_worth_85 : decode cX7_worth 85 = .ok (.bipush 12, 2) := by decide +kernel
theorem dX7_worth_87 : decode cX7_worth 87 = .ok (.if_icmp .ne 28, 3) := by decide +kernel
theorem dX7_worth_90 : decode cX7_worth 90 = .ok (.aload_n 0, 1) := by decide +kernel
theorem dX7_worth_91 : decode cX7_worth 91 = .ok (.invokevirtual 46, 3) := by decide +kernel
theorem dX7_worth_94 : decode cX7_worth 94 = .ok (.ifCond .ne 16, 3) := by decide +kernel
theorem dX7_worth_97 : decode cX7_worth 97 = .ok (.iload 4, 2) := by decide +kernel
theorem dX7_worth_99 : decode cX7_worth 99 = .ok (.iload_n 2, 1) := by decide +kernel
theorem dX7_worth_100 : decode cX7_worth 100 = .ok (.if_icmp .le 10, 3) := by decide +kernel
theorem dX7_worth_103 : decode cX7_worth 103 = .ok (.iload 4, 2) := by decide +kernel
theorem dX7_worth_105 : decode cX7_worth 105 = .ok (.iconst 1, 1) := by decide +kernel
theorem dX7_worth_106 : decode cX7_worth 106 = .ok (.isub, 1) := by decide +kernel
theorem dX7_worth_107 : decode cX7_worth 107 = .ok (.goto 4, 3) := by decide +kernel
theorem dX7_worth_110 : decode cX7_worth 110 = .ok (.iload_n 2, 1) := by decide +kernel
theorem dX7_worth_111 : decode cX7_worth 111 = .ok (.istore_n 2, 1) := by decide +kernel
theorem dX7_worth_112 : decode cX7_worth 112 = .ok (.goto 90, 3) := by decide +kernel
theorem dX7_worth_115 : decode cX7_worth 115 = .ok (.iload_n 3, 1) := by decide +kernel
theorem dX7_worth_116 : decode cX7_worth 116 = .ok (.ifCond .ne 12, 3) := by decide +kernel
theorem dX7_worth_119 : decode cX7_worth 119 = .ok (.aload_n 0, 1) := by decide +kernel
theorem dX7_worth_120 : decode cX7_worth 120 = .ok (.iload 4, 2) := by decide +kernel
theorem dX7_worth_122 : decode cX7_worth 122 = .ok (.invokevirtual 50, 3) := by decide +kernel
theorem dX7_worth_125 : decode cX7_worth 125 = .ok (.goto 77, 3) := by decide +kernel
theorem dX7_worth_128 : decode cX7_worth 128 = .ok (.iload_n 3, 1) := by decide +kernel
theorem dX7_worth_129 : decode cX7_worth 129 = .ok (.iconst 1, 1) := by decide +kernel
theorem dX7_worth_130 : decode cX7_worth 130 = .ok (.if_icmp .ne 31, 3) := by decide +kernel
theorem dX7_worth_133 : decode cX7_worth 133 = .ok (.aload_n 0, 1) := by decide +kernel
theorem dX7_worth_134 : decode cX7_worth 134 = .ok (.iload 4, 2) := by decide +kernel
theorem dX7_worth_136 : decode cX7_worth 136 = .ok (.aload_n 0, 1) := by decide +kernel
theorem dX7_worth_137 : decode cX7_worth 137 = .ok (.getfield 20, 3) := by decide +kernel
theorem dX7_worth_140 : decode cX7_worth 140 = .ok (.arraylength, 1) := by decide +kernel
theorem dX7_worth_141 : decode cX7_worth 141 = .ok (.if_icmp .ge 13, 3) := by decide +kernel
theorem dX7_worth_144 : decode cX7_worth 144 = .ok (.aload_n 0, 1) := by decide +kernel
theorem dX7_worth_145 : decode cX7_worth 145 = .ok (.getfield 20, 3) := by decide +kernel
theorem dX7_worth_148 : decode cX7_worth 148 = .ok (.iload 4, 2) := by decide +kernel
theorem dX7_worth_150 : decode cX7_worth 150 = .ok (.iaload, 1) := by decide +kernel
theorem dX7_worth_151 : decode cX7_worth 151 = .ok (.goto 4, 3) := by decide +kernel
theorem dX7_worth_154 : decode cX7_worth 154 = .ok (.iconst 0, 1) := by decide +kernel
theorem dX7_worth_155 : decode cX7_worth 155 = .ok (.invokevirtual 50, 3) := by decide +kernel
theorem dX7_worth_158 : decode cX7_worth 158 = .ok (.goto 44, 3) := by decide +kernel
theorem dX7_worth_161 : decode cX7_worth 161 = .ok (.iload_n 3, 1) := by decide +kernel
theorem dX7_worth_162 : decode cX7_worth 162 = .ok (.bipush 9, 2) := by decide +kernel
theorem dX7_worth_164 : decode cX7_worth 164 = .ok (.if_icmp .ne 16, 3) := by decide +kernel
theorem dX7_worth_167 : decode cX7_worth 167 = .ok (.aload_n 0, 1) := by decide +kernel
theorem dX7_worth_168 : decode cX7_worth 168 = .ok (.iconst 1, 1) := by decide +kernel
theorem dX7_worth_169 : decode cX7_worth 169 = .ok (.aload_n 0, 1) := by decide +kernel
theorem dX7_worth_170 : decode cX7_worth 170 = .ok (.invokevirtual 46, 3) := by decide +kernel
theorem dX7_worth_173 : decode cX7_worth 173 = .ok (.isub, 1) := by decide +kernel
theorem dX7_worth_174 : decode cX7_worth 174 = .ok (.invokevirtual 50, 3) := by decide +kernel
theorem dX7_worth_177 : decode cX7_worth 177 = .ok (.goto 25, 3) := by decide +kernel
theorem dX7_worth_180 : decode cX7_worth 180 = .ok (.aload_n 0, 1) := by decide +kernel
theorem dX7_worth_181 : decode cX7_worth 181 = .ok (.invokevirtual 46, 3) := by decide +kernel
theorem dX7_worth_184 : decode cX7_worth 184 = .ok (.i2l, 1) := by decide +kernel
theorem dX7_worth_185 : decode cX7_worth 185 = .ok (.lstore 5, 2) := by decide +kernel
theorem dX7_worth_187 : decode cX7_worth 187 = .ok (.aload_n 0, 1) := by decide +kernel
theorem dX7_worth_188 : decode cX7_worth 188 = .ok (.iload_n 3, 1) := by decide +kernel
theorem dX7_worth_189 : decode cX7_worth 189 = .ok (.aload_n 0, 1) := by decide +kernel
theorem dX7_worth_190 : decode cX7_worth 190 = .ok (.invokevirtual 46, 3) := by decide +kernel
theorem dX7_worth_193 : decode cX7_worth 193 = .ok (.i2l, 1) := by decide +kernel
theorem dX7_worth_194 : decode cX7_worth 194 = .ok (.lload 5, 2) := by decide +kernel
theorem dX7_worth_196 : decode cX7_worth 196 = .ok (.invokestatic 54, 3) := by decide +kernel
theorem dX7_worth_199 : decode cX7_worth 199 = .ok (.invokevirtual 50, 3) := by decide +kernel
theorem dX7_worth_202 : decode cX7_worth 202 = .ok (.iinc 2 1, 3) := by decide +kernel
theorem dX7_worth_205 : decode cX7_worth 205 = .ok (.goto (-169), 3) := by decide +kernel
theorem dX7_worth_208 : decode cX7_worth 208 = .ok (.iconst 0, 1) := by decide +kernel
theorem dX7_worth_209 : decode cX7_worth 209 = .ok (.ireturn, 1) := by decide +kernel
theorem dX7_push_0 : decode cX7_push 0 = .ok (.aload_n 0, 1) := by decide +kernel
theorem dX7_push_1 : decode cX7_push 1 = .ok (.getfield 43, 3) := by decide +kernel
theorem dX7_push_4 : decode cX7_push 4 = .ok (.aload_n 0, 1) := by decide +kernel
theorem dX7_push_5 : decode cX7_push 5 = .ok (.getfield 23, 3) := by decide +kernel
theorem dX7_push_8 : decode cX7_push 8 = .ok (.arraylength, 1) := by decide +kernel
theorem dX7_push_9 : decode cX7_push 9 = .ok (.if_icmp .ge 23, 3) := by decide +kernel
theorem dX7_push_12 : decode cX7_push 12 = .ok (.aload_n 0, 1) := by decide +kernel
theorem dX7_push_13 : decode cX7_push 13 = .ok (.getfield 23, 3) := by decide +kernel
theorem dX7_push_16 : decode cX7_push 16 = .ok (.aload_n 0, 1) := by decide +kernel
theorem dX7_push_17 : decode cX7_push 17 = .ok (.getfield 43, 3) := by decide +kernel
theorem dX7_push_20 : decode cX7_push 20 = .ok (.iload_n 1, 1) := by decide +kernel
theorem dX7_push_21 : decode cX7_push 21 = .ok (.iastore, 1) := by decide +kernel
theorem dX7_push_22 : decode cX7_push 22 = .ok (.aload_n 0, 1) := by decide +kernel
theorem dX7_push_23 : decode cX7_push 23 = .ok (.dup, 1) := by decide +kernel
theorem dX7_push_24 : decode cX7_push 24 = .ok (.getfield 43, 3) := by decide +kernel
theorem dX7_push_27 : decode cX7_push 27 = .ok (.iconst 1, 1) := by decide +kernel
theorem dX7_push_28 : decode cX7_push 28 = .ok (.iadd, 1) := by decide +kernel
theorem dX7_push_29 : decode cX7_push 29 = .ok (.putfield 43, 3) := by decide +kernel
theorem dX7_push_32 : decode cX7_push 32 = .ok (.return_, 1) := by decide +kernel
theorem dX7_pop_0 : decode cX7_pop 0 = .ok (.aload_n 0, 1) := by decide +kernel
theorem dX7_pop_1 : decode cX7_pop 1 = .ok (.getfield 43, 3) := by decide +kernel
theorem dX7_pop_4 : decode cX7_pop 4 = .ok (.iconst 1, 1) := by decide +kernel
theorem dX7_pop_5 : decode cX7_pop 5 = .ok (.if_icmp .ge 5, 3) := by decide +kernel
theorem dX7_pop_8 : decode cX7_pop 8 = .ok (.iconst 0, 1) := by decide +kernel
theorem dX7_pop_9 : decode cX7_pop 9 = .ok (.ireturn, 1) := by decide +kernel
theorem dX7_pop_10 : decode cX7_pop 10 = .ok (.aload_n 0, 1) := by decide +kernel
theorem dX7_pop_11 : decode cX7_pop 11 = .ok (.dup, 1) := by decide +kernel
theorem dX7_pop_12 : decode cX7_pop 12 = .ok (.getfield 43, 3) := by decide +kernel
theorem dX7_pop_15 : decode cX7_pop 15 = .ok (.iconst 1, 1) := by decide +kernel
theorem dX7_pop_16 : decode cX7_pop 16 = .ok (.isub, 1) := by decide +kernel
theorem dX7_pop_17 : decode cX7_pop 17 = .ok (.putfield 43, 3) := by decide +kernel
theorem dX7_pop_20 : decode cX7_pop 20 = .ok (.aload_n 0, 1) := by decide +kernel
theorem dX7_pop_21 : decode cX7_pop 21 = .ok (.getfield 23, 3) := by decide +kernel
theorem dX7_pop_24 : decode cX7_pop 24 = .ok (.aload_n 0, 1) := by decide +kernel
theorem dX7_pop_25 : decode cX7_pop 25 = .ok (.getfield 43, 3) := by decide +kernel
theorem dX7_pop_28 : decode cX7_pop 28 = .ok (.iaload, 1) := by decide +kernel
theorem dX7_pop_29 : decode cX7_pop 29 = .ok (.ireturn, 1) := by decide +kernel
theorem dX7_join_0 : decode cX7_join 0 = .ok (.iload_n 0, 1) := by decide +kernel
theorem dX7_join_1 : decode cX7_join 1 = .ok (.tableswitch 163 2 10 #[51, 59, 67, 75, 93, 109, 125, 163, 141], 51) := by decide +kernel
theorem dX7_join_52 : decode cX7_join 52 = .ok (.lload_n 1, 1) := by decide +kernel
theorem dX7_join_53 : decode cX7_join 53 = .ok (.lload_n 3, 1) := by decide +kernel
theorem dX7_join_54 : decode cX7_join 54 = .ok (.ladd, 1) := by decide +kernel
theorem dX7_join_55 : decode cX7_join 55 = .ok (.lstore 5, 2) := by decide +kernel
theorem dX7_join_57 : decode cX7_join 57 = .ok (.goto 126, 3) := by decide +kernel
theorem dX7_join_60 : decode cX7_join 60 = .ok (.lload_n 1, 1) := by decide +kernel
theorem dX7_join_61 : decode cX7_join 61 = .ok (.lload_n 3, 1) := by decide +kernel
theorem dX7_join_62 : decode cX7_join 62 = .ok (.lsub, 1) := by decide +kernel
theorem dX7_join_63 : decode cX7_join 63 = .ok (.lstore 5, 2) := by decide +kernel
theorem dX7_join_65 : decode cX7_join 65 = .ok (.goto 118, 3) := by decide +kernel
theorem dX7_join_68 : decode cX7_join 68 = .ok (.lload_n 1, 1) := by decide +kernel
theorem dX7_join_69 : decode cX7_join 69 = .ok (.lload_n 3, 1) := by decide +kernel
theorem dX7_join_70 : decode cX7_join 70 = .ok (.lmul, 1) := by decide +kernel
theorem dX7_join_71 : decode cX7_join 71 = .ok (.lstore 5, 2) := by decide +kernel
theorem dX7_join_73 : decode cX7_join 73 = .ok (.goto 110, 3) := by decide +kernel
theorem dX7_join_76 : decode cX7_join 76 = .ok (.lload_n 3, 1) := by decide +kernel
theorem dX7_join_77 : decode cX7_join 77 = .ok (.lconst 0, 1) := by decide +kernel
theorem dX7_join_78 : decode cX7_join 78 = .ok (.lcmp, 1) := by decide +kernel
theorem dX7_join_79 : decode cX7_join 79 = .ok (.ifCond .ne 7, 3) := by decide +kernel
theorem dX7_join_82 : decode cX7_join 82 = .ok (.lconst 0, 1) := by decide +kernel
theorem dX7_join_83 : decode cX7_join 83 = .ok (.goto 6, 3) := by decide +kernel
theorem dX7_join_86 : decode cX7_join 86 = .ok (.lload_n 1, 1) := by decide +kernel
theorem dX7_join_87 : decode cX7_join 87 = .ok (.lload_n 3, 1) := by decide +kernel
theorem dX7_join_88 : decode cX7_join 88 = .ok (.ldiv, 1) := by decide +kernel
theorem dX7_join_89 : decode cX7_join 89 = .ok (.lstore 5, 2) := by decide +kernel
theorem dX7_join_91 : decode cX7_join 91 = .ok (.goto 92, 3) := by decide +kernel
theorem dX7_join_94 : decode cX7_join 94 = .ok (.lload_n 1, 1) := by decide +kernel
theorem dX7_join_95 : decode cX7_join 95 = .ok (.lload_n 3, 1) := by decide +kernel
theorem dX7_join_96 : decode cX7_join 96 = .ok (.lcmp, 1) := by decide +kernel
theorem dX7_join_97 : decode cX7_join 97 = .ok (.ifCond .ne 7, 3) := by decide +kernel
theorem dX7_join_100 : decode cX7_join 100 = .ok (.lconst 1, 1) := by decide +kernel
theorem dX7_join_101 : decode cX7_join 101 = .ok (.goto 4, 3) := by decide +kernel
theorem dX7_join_104 : decode cX7_join 104 = .ok (.lconst 0, 1) := by decide +kernel
theorem dX7_join_105 : decode cX7_join 105 = .ok (.lstore 5, 2) := by decide +kernel
theorem dX7_join_107 : decode cX7_join 107 = .ok (.goto 76, 3) := by decide +kernel
theorem dX7_join_110 : decode cX7_join 110 = .ok (.lload_n 1, 1) := by decide +kernel
theorem dX7_join_111 : decode cX7_join 111 = .ok (.lload_n 3, 1) := by decide +kernel
theorem dX7_join_112 : decode cX7_join 112 = .ok (.lcmp, 1) := by decide +kernel
theorem dX7_join_113 : decode cX7_join 113 = .ok (.ifCond .ge 7, 3) := by decide +kernel
theorem dX7_join_116 : decode cX7_join 116 = .ok (.lconst 1, 1) := by decide +kernel
theorem dX7_join_117 : decode cX7_join 117 = .ok (.goto 4, 3) := by decide +kernel
theorem dX7_join_120 : decode cX7_join 120 = .ok (.lconst 0, 1) := by decide +kernel
theorem dX7_join_121 : decode cX7_join 121 = .ok (.lstore 5, 2) := by decide +kernel
theorem dX7_join_123 : decode cX7_join 123 = .ok (.goto 60, 3) := by decide +kernel
theorem dX7_join_126 : decode cX7_join 126 = .ok (.lload_n 1, 1) := by decide +kernel
theorem dX7_join_127 : decode cX7_join 127 = .ok (.lload_n 3, 1) := by decide +kernel
theorem dX7_join_128 : decode cX7_join 128 = .ok (.lcmp, 1) := by decide +kernel
theorem dX7_join_129 : decode cX7_join 129 = .ok (.ifCond .le 7, 3) := by decide +kernel
theorem dX7_join_132 : decode cX7_join 132 = .ok (.lconst 1, 1) := by decide +kernel
theorem dX7_join_133 : decode cX7_join 133 = .ok (.goto 4, 3) := by decide +kernel
theorem dX7_join_136 : decode cX7_join 136 = .ok (.lconst 0, 1) := by decide +kernel
theorem dX7_join_137 : decode cX7_join 137 = .ok (.lstore 5, 2) := by decide +kernel
theorem dX7_join_139 : decode cX7_join 139 = .ok (.goto 44, 3) := by decide +kernel
theorem dX7_join_142 : decode cX7_join 142 = .ok (.lload_n 1, 1) := by decide +kernel
theorem dX7_join_143 : decode cX7_join 143 = .ok (.lconst 0, 1) := by decide +kernel
theorem dX7_join_144 : decode cX7_join 144 = .ok (.lcmp, 1) := by decide +kernel
theorem dX7_join_145 : decode cX7_join 145 = .ok (.ifCond .eq 13, 3) := by decide +kernel
theorem dX7_join_148 : decode cX7_join 148 = .ok (.lload_n 3, 1) := by decide +kernel
theorem dX7_join_149 : decode cX7_join 149 = .ok (.lconst 0, 1) := by decide +kernel
theorem dX7_join_150 : decode cX7_join 150 = .ok (.lcmp, 1) := by decide +kernel
theorem dX7_join_151 : decode cX7_join 151 = .ok (.ifCond .eq 7, 3) := by decide +kernel
theorem dX7_join_154 : decode cX7_join 154 = .ok (.lconst 1, 1) := by decide +kernel
theorem dX7_join_155 : decode cX7_join 155 = .ok (.goto 4, 3) := by decide +kernel
theorem dX7_join_158 : decode cX7_join 158 = .ok (.lconst 0, 1) := by decide +kernel
theorem dX7_join_159 : decode cX7_join 159 = .ok (.lstore 5, 2) := by decide +kernel
theorem dX7_join_161 : decode cX7_join 161 = .ok (.goto 22, 3) := by decide +kernel
theorem dX7_join_164 : decode cX7_join 164 = .ok (.lload_n 1, 1) := by decide +kernel
theorem dX7_join_165 : decode cX7_join 165 = .ok (.lconst 0, 1) := by decide +kernel
theorem dX7_join_166 : decode cX7_join 166 = .ok (.lcmp, 1) := by decide +kernel
theorem dX7_join_167 : decode cX7_join 167 = .ok (.ifCond .ne 9, 3) := by decide +kernel
theorem dX7_join_170 : decode cX7_join 170 = .ok (.lload_n 3, 1) := by decide +kernel
theorem dX7_join_171 : decode cX7_join 171 = .ok (.lconst 0, 1) := by decide +kernel
theorem dX7_join_172 : decode cX7_join 172 = .ok (.lcmp, 1) := by decide +kernel
theorem dX7_join_173 : decode cX7_join 173 = .ok (.ifCond .eq 7, 3) := by decide +kernel
theorem dX7_join_176 : decode cX7_join 176 = .ok (.lconst 1, 1) := by decide +kernel
theorem dX7_join_177 : decode cX7_join 177 = .ok (.goto 4, 3) := by decide +kernel
theorem dX7_join_180 : decode cX7_join 180 = .ok (.lconst 0, 1) := by decide +kernel
theorem dX7_join_181 : decode cX7_join 181 = .ok (.lstore 5, 2) := by decide +kernel
theorem dX7_join_183 : decode cX7_join 183 = .ok (.lload 5, 2) := by decide +kernel
theorem dX7_join_185 : decode cX7_join 185 = .ok (.ldc2_w 58, 3) := by decide +kernel
theorem dX7_join_188 : decode cX7_join 188 = .ok (.lcmp, 1) := by decide +kernel
theorem dX7_join_189 : decode cX7_join 189 = .ok (.ifCond .le 6, 3) := by decide +kernel
theorem dX7_join_192 : decode cX7_join 192 = .ok (.ldc 60, 2) := by decide +kernel
theorem dX7_join_194 : decode cX7_join 194 = .ok (.ireturn, 1) := by decide +kernel
theorem dX7_join_195 : decode cX7_join 195 = .ok (.lload 5, 2) := by decide +kernel
theorem dX7_join_197 : decode cX7_join 197 = .ok (.ldc2_w 61, 3) := by decide +kernel
theorem dX7_join_200 : decode cX7_join 200 = .ok (.lcmp, 1) := by decide +kernel
theorem dX7_join_201 : decode cX7_join 201 = .ok (.ifCond .ge 8, 3) := by decide +kernel
theorem dX7_join_204 : decode cX7_join 204 = .ok (.ldc 63, 2) := by decide +kernel
theorem dX7_join_206 : decode cX7_join 206 = .ok (.goto 6, 3) := by decide +kernel
theorem dX7_join_209 : decode cX7_join 209 = .ok (.lload 5, 2) := by decide +kernel
theorem dX7_join_211 : decode cX7_join 211 = .ok (.l2i, 1) := by decide +kernel
theorem dX7_join_212 : decode cX7_join 212 = .ok (.ireturn, 1) := by decide +kernel
theorem dX8_init_0 : decode cX8_init 0 = .ok (.aload_n 0, 1) := by decide +kernel
theorem dX8_init_1 : decode cX8_init 1 = .ok (.invokespecial 3, 3) := by decide +kernel
theorem dX8_init_4 : decode cX8_init 4 = .ok (.aload_n 0, 1) := by decide +kernel
theorem dX8_init_5 : decode cX8_init 5 = .ok (.bipush 8, 2) := by decide +kernel
theorem dX8_init_7 : decode cX8_init 7 = .ok (.newarray .int, 2) := by decide +kernel
theorem dX8_init_9 : decode cX8_init 9 = .ok (.putfield 9, 3) := by decide +kernel
theorem dX8_init_12 : decode cX8_init 12 = .ok (.aload_n 0, 1) := by decide +kernel
theorem dX8_init_13 : decode cX8_init 13 = .ok (.bipush 35, 2) := by decide +kernel
theorem dX8_init_15 : decode cX8_init 15 = .ok (.newarray .int, 2) := by decide +kernel
theorem dX8_init_17 : decode cX8_init 17 = .ok (.putfield 15, 3) := by decide +kernel
theorem dX8_init_20 : decode cX8_init 20 = .ok (.aload_n 0, 1) := by decide +kernel
theorem dX8_init_21 : decode cX8_init 21 = .ok (.bipush 35, 2) := by decide +kernel
theorem dX8_init_23 : decode cX8_init 23 = .ok (.newarray .int, 2) := by decide +kernel
theorem dX8_init_25 : decode cX8_init 25 = .ok (.putfield 18, 3) := by decide +kernel
theorem dX8_init_28 : decode cX8_init 28 = .ok (.aload_n 0, 1) := by decide +kernel
theorem dX8_init_29 : decode cX8_init 29 = .ok (.bipush 35, 2) := by decide +kernel
theorem dX8_init_31 : decode cX8_init 31 = .ok (.newarray .int, 2) := by decide +kernel
theorem dX8_init_33 : decode cX8_init 33 = .ok (.putfield 21, 3) := by decide +kernel
theorem dX8_init_36 : decode cX8_init 36 = .ok (.aload_n 0, 1) := by decide +kernel
theorem dX8_init_37 : decode cX8_init 37 = .ok (.aload_n 1, 1) := by decide +kernel
theorem dX8_init_38 : decode cX8_init 38 = .ok (.putfield 24, 3) := by decide +kernel
theorem dX8_init_41 : decode cX8_init 41 = .ok (.aload_n 0, 1) := by decide +kernel
theorem dX8_init_42 : decode cX8_init 42 = .ok (.aload_n 2, 1) := by decide +kernel
theorem dX8_init_43 : decode cX8_init 43 = .ok (.putfield 28, 3) := by decide +kernel
theorem dX8_init_46 : decode cX8_init 46 = .ok (.return_, 1) := by decide +kernel
theorem dX8_fall_0 : decode cX8_fall 0 = .ok (.aload_n 0, 1) := by decide +kernel
theorem dX8_fall_1 : decode cX8_fall 1 = .ok (.getfield 9, 3) := by decide +kernel
theorem dX8_fall_4 : decode cX8_fall 4 = .ok (.iconst 0, 1) := by decide +kernel
theorem dX8_fall_5 : decode cX8_fall 5 = .ok (.invokestatic 32, 3) := by decide +kernel
theorem dX8_fall_8 : decode cX8_fall 8 = .ok (.aload_n 0, 1) := by decide +kernel
theorem dX8_fall_9 : decode cX8_fall 9 = .ok (.iconst 0, 1) := by decide +kernel
theorem dX8_fall_10 : decode cX8_fall 10 = .ok (.putfield 38, 3) := by decide +kernel
theorem dX8_fall_13 : decode cX8_fall 13 = .ok (.aload_n 0, 1) := by decide +kernel
theorem dX8_fall_14 : decode cX8_fall 14 = .ok (.iconst 0, 1) := by decide +kernel
theorem dX8_fall_15 : decode cX8_fall 15 = .ok (.putfield 42, 3) := by decide +kernel
theorem dX8_fall_18 : decode cX8_fall 18 = .ok (.aload_n 0, 1) := by decide +kernel
theorem dX8_fall_19 : decode cX8_fall 19 = .ok (.iconst 0, 1) := by decide +kernel
theorem dX8_fall_20 : decode cX8_fall 20 = .ok (.putfield 45, 3) := by decide +kernel
theorem dX8_fall_23 : decode cX8_fall 23 = .ok (.aload_n 0, 1) := by decide +kernel
theorem dX8_fall_24 : decode cX8_fall 24 = .ok (.iload_n 2, 1) := by decide +kernel
theorem dX8_fall_25 : decode cX8_fall 25 = .ok (.iconst (-1), 1) := by decide +kernel
theorem dX8_fall_26 : decode cX8_fall 26 = .ok (.iload_n 3, 1) := by decide +kernel
theorem dX8_fall_27 : decode cX8_fall 27 = .ok (.invokevirtual 48, 3) := by decide +kernel
theorem dX8_fall_30 : decode cX8_fall 30 = .ok (.iconst 0, 1) := by decide +kernel
theorem dX8_fall_31 : decode cX8_fall 31 = .ok (.istore 4, 2) := by decide +kernel
theorem dX8_fall_33 : decode cX8_fall 33 = .ok (.iload 4, 2) := by decide +kernel
theorem dX8_fall_35 : decode cX8_fall 35 = .ok (.aload_n 0, 1) := by decide +kernel
theorem dX8_fall_36 : decode cX8_fall 36 = .ok (.getfield 38, 3) := by decide +kernel
theorem dX8_fall_39 : decode cX8_fall 39 = .ok (.if_icmp .ge 42, 3) := by decide +kernel
theorem dX8_fall_42 : decode cX8_fall 42 = .ok (.iload 4, 2) := by decide +kernel
theorem dX8_fall_44 : decode cX8_fall 44 = .ok (.bipush 35, 2) := by decide +kernel
theorem dX8_fall_46 : decode cX8_fall 46 = .ok (.if_icmp .ge 35, 3) := by decide +kernel
theorem dX8_fall_49 : decode cX8_fall 49 = .ok (.aload_n 0, 1) := by decide +kernel
theorem dX8_fall_50 : decode cX8_fall 50 = .ok (.iload_n 1, 1) := by decide +kernel
theorem dX8_fall_51 : decode cX8_fall 51 = .ok (.aload_n 0, 1) := by decide +kernel
theorem dX8_fall_52 : decode cX8_fall 52 = .ok (.getfield 15, 3) := by decide +kernel
theorem dX8_fall_55 : decode cX8_fall 55 = .ok (.iload 4, 2) := by decide +kernel
theorem dX8_fall_57 : decode cX8_fall 57 = .ok (.iaload, 1) := by decide +kernel
theorem dX8_fall_58 : decode cX8_fall 58 = .ok (.aload_n 0, 1) := by decide +kernel
theorem dX8_fall_59 : decode cX8_fall 59 = .ok (.getfield 18, 3) := by decide +kernel
theorem dX8_fall_62 : decode cX8_fall 62 = .ok (.iload 4, 2) := by decide +kernel
theorem dX8_fall_64 : decode cX8_fall 64 = .ok (.iaload, 1) := by decide +kernel
theorem dX8_fall_65 : decode cX8_fall 65 = .ok (.aload_n 0, 1) := by decide +kernel
theorem dX8_fall_66 : decode cX8_fall 66 = .ok (.getfield 21, 3) := by decide +kernel
theorem dX8_fall_69 : decode cX8_fall 69 = .ok (.iload 4, 2) := by decide +kernel
theorem dX8_fall_71 : decode cX8_fall 71 = .ok (.iaload, 1) := by decide +kernel
theorem dX8_fall_72 : decode cX8_fall 72 = .ok (.invokevirtual 52, 3) := by decide +kernel
theorem dX8_fall_75 : decode cX8_fall 75 = .ok (.iinc 4 1, 3) := by decide +kernel
theorem dX8_fall_78 : decode cX8_fall 78 = .ok (.goto (-45), 3) := by decide +kernel
theorem dX8_fall_81 : decode cX8_fall 81 = .ok (.aload_n 0, 1) := by decide +kernel
theorem dX8_fall_82 : decode cX8_fall 82 = .ok (.invokevirtual 56, 3) := by decide +kernel
theorem dX8_fall_85 : decode cX8_fall 85 = .ok (.ireturn, 1) := by decide +kernel
theorem dX8_send_0 : decode cX8_send 0 = .ok (.aload_n 0, 1) := by decide +kernel
theorem dX8_send_1 : decode cX8_send 1 = .ok (.getfield 38, 3) := by decide +kernel
theorem dX8_send_4 : decode cX8_send 4 = .ok (.bipush 35, 2) := by decide +kernel
theorem dX8_send_6 : decode cX8_send 6 = .ok (.if_icmp .ge 43, 3) := by decide +kernel
theorem dX8_send_9 : decode cX8_send 9 = .ok (.aload_n 0, 1) := by decide +kernel
theorem dX8_send_10 : decode cX8_send 10 = .ok (.getfield 15, 3) := by decide +kernel
theorem dX8_send_13 : decode cX8_send 13 = .ok (.aload_n 0, 1) := by decide +kernel
theorem dX8_send_14 : decode cX8_send 14 = .ok (.getfield 38, 3) := by decide +kernel
theorem dX8_send_17 : decode cX8_send 17 = .ok (.iload_n 1, 1) := by decide +kernel
theorem dX8_send_18 : decode cX8_send 18 = .ok (.iastore, 1) := by decide +kernel
theorem dX8_send_19 : decode cX8_send 19 = .ok (.aload_n 0, 1) := by decide +kernel
theorem dX8_send_20 : decode cX8_send 20 = .ok (.getfield 18, 3) := by decide +kernel
theorem dX8_send_23 : decode cX8_send 23 = .ok (.aload_n 0, 1) := by decide +kernel
theorem dX8_send_24 : decode cX8_send 24 = .ok (.getfield 38, 3) := by decide +kernel
theorem dX8_send_27 : decode cX8_send 27 = .ok (.iload_n 2, 1) := by decide +kernel
theorem dX8_send_28 : decode cX8_send 28 = .ok (.iastore, 1) := by decide +kernel
theorem dX8_send_29 : decode cX8_send 29 = .ok (.aload_n 0, 1) := by decide +kernel
theorem dX8_send_30 : decode cX8_send 30 = .ok (.getfield 21, 3) := by decide +kernel
theorem dX8_send_33 : decode cX8_send 33 = .ok (.aload_n 0, 1) := by decide +kernel
theorem dX8_send_34 : decode cX8_send 34 = .ok (.getfield 38, 3) := by decide +kernel
theorem dX8_send_37 : decode cX8_send 37 = .ok (.iload_n 3, 1) := by decide +kernel
theorem dX8_send_38 : decode cX8_send 38 = .ok (.iastore, 1) := by decide +kernel
theorem dX8_send_39 : decode cX8_send 39 = .ok (.aload_n 0, 1) := by decide +kernel
theorem dX8_send_40 : decode cX8_send 40 = .ok (.dup, 1) := by decide +kernel
theorem dX8_send_41 : decode cX8_send 41 = .ok (.getfield 38, 3) := by decide +kernel
theorem dX8_send_44 : decode cX8_send 44 = .ok (.iconst 1, 1) := by decide +kernel
theorem dX8_send_45 : decode cX8_send 45 = .ok (.iadd, 1) := by decide +kernel
theorem dX8_send_46 : decode cX8_send 46 = .ok (.putfield 38, 3) := by decide +kernel
theorem dX8_send_49 : decode cX8_send 49 = .ok (.return_, 1) := by decide +kernel
theorem dX8_arrive_0 : decode cX8_arrive 0 = .ok (.aload_n 0, 1) := by decide +kernel
theorem dX8_arrive_1 : decode cX8_arrive 1 = .ok (.getfield 42, 3) := by decide +kernel
theorem dX8_arrive_4 : decode cX8_arrive 4 = .ok (.iload_n 2, 1) := by decide +kernel
theorem dX8_arrive_5 : decode cX8_arrive 5 = .ok (.invokestatic 60, 3) := by decide +kernel
theorem dX8_arrive_8 : decode cX8_arrive 8 = .ok (.iconst 1, 1) := by decide +kernel
theorem dX8_arrive_9 : decode cX8_arrive 9 = .ok (.if_icmp .ne 15, 3) := by decide +kernel
theorem dX8_arrive_12 : decode cX8_arrive 12 = .ok (.aload_n 0, 1) := by decide +kernel
theorem dX8_arrive_13 : decode cX8_arrive 13 = .ok (.getfield 9, 3) := by decide +kernel
theorem dX8_arrive_16 : decode cX8_arrive 16 = .ok (.iload_n 2, 1) := by decide +kernel
theorem dX8_arrive_17 : decode cX8_arrive 17 = .ok (.dup2, 1) := by decide +kernel
theorem dX8_arrive_18 : decode cX8_arrive 18 = .ok (.iaload, 1) := by decide +kernel
theorem dX8_arrive_19 : decode cX8_arrive 19 = .ok (.iload 4, 2) := by decide +kernel
theorem dX8_arrive_21 : decode cX8_arrive 21 = .ok (.iadd, 1) := by decide +kernel
theorem dX8_arrive_22 : decode cX8_arrive 22 = .ok (.iastore, 1) := by decide +kernel
theorem dX8_arrive_23 : decode cX8_arrive 23 = .ok (.return_, 1) := by decide +kernel
theorem dX8_arrive_24 : decode cX8_arrive 24 = .ok (.aload_n 0, 1) := by decide +kernel
theorem dX8_arrive_25 : decode cX8_arrive 25 = .ok (.dup, 1) := by decide +kernel
theorem dX8_arrive_26 : decode cX8_arrive 26 = .ok (.getfield 42, 3) := by decide +kernel
theorem dX8_arrive_29 : decode cX8_arrive 29 = .ok (.iconst 1, 1) := by decide +kernel
theorem dX8_arrive_30 : decode cX8_arrive 30 = .ok (.iload_n 2, 1) := by decide +kernel
theorem dX8_arrive_31 : decode cX8_arrive 31 = .ok (.ishl, 1) := by decide +kernel
theorem dX8_arrive_32 : decode cX8_arrive 32 = .ok (.ior, 1) := by decide +kernel
theorem dX8_arrive_33 : decode cX8_arrive 33 = .ok (.putfield 42, 3) := by decide +kernel
theorem dX8_arrive_36 : decode cX8_arrive 36 = .ok (.aload_n 0, 1) := by decide +kernel
theorem dX8_arrive_37 : decode cX8_arrive 37 = .ok (.getfield 24, 3) := by decide +kernel
theorem dX8_arrive_40 : decode cX8_arrive 40 = .ok (.iload_n 1, 1) := by decide +kernel
theorem dX8_arrive_41 : decode cX8_arrive 41 = .ok (.iload_n 2, 1) := by decide +kernel
theorem dX8_arrive_42 : decode cX8_arrive 42 = .ok (.invokevirtual 64, 3) := by decide +kernel
theorem dX8_arrive_45 : decode cX8_arrive 45 = .ok (.istore 5, 2) := by decide +kernel
theorem dX8_arrive_47 : decode cX8_arrive 47 = .ok (.iload_n 3, 1) := by decide +kernel
theorem dX8_arrive_48 : decode cX8_arrive 48 = .ok (.iconst (-1), 1) := by decide +kernel
theorem dX8_arrive_49 : decode cX8_arrive 49 = .ok (.if_icmp .eq 13, 3) := by decide +kernel
theorem dX8_arrive_52 : decode cX8_arrive 52 = .ok (.iload 5, 2) := by decide +kernel
theorem dX8_arrive_54 : decode cX8_arrive 54 = .ok (.iconst 1, 1) := by decide +kernel
theorem dX8_arrive_55 : decode cX8_arrive 55 = .ok (.iload_n 3, 1) := by decide +kernel
theorem dX8_arrive_56 : decode cX8_arrive 56 = .ok (.ishl, 1) := by decide +kernel
theorem dX8_arrive_57 : decode cX8_arrive 57 = .ok (.iconst (-1), 1) := by decide +kernel
theorem dX8_arrive_58 : decode cX8_arrive 58 = .ok (.ixor, 1) := by decide +kernel
theorem dX8_arrive_59 : decode cX8_arrive 59 = .ok (.iand, 1) := by decide +kernel
theorem dX8_arrive_60 : decode cX8_arrive 60 = .ok (.istore 5, 2) := by decide +kernel
theorem dX8_arrive_62 : decode cX8_arrive 62 = .ok (.iload 5, 2) := by decide +kernel
theorem dX8_arrive_64 : decode cX8_arrive 64 = .ok (.invokestatic 69, 3) := by decide +kernel
theorem dX8_arrive_67 : decode cX8_arrive 67 = .ok (.istore 6, 2) := by decide +kernel
theorem dX8_arrive_69 : decode cX8_arrive 69 = .ok (.iload 6, 2) := by decide +kernel
theorem dX8_arrive_71 : decode cX8_arrive 71 = .ok (.ifCond .ne 15, 3) := by decide +kernel
theorem dX8_arrive_74 : decode cX8_arrive 74 = .ok (.aload_n 0, 1) := by decide +kernel
theorem dX8_arrive_75 : decode cX8_arrive 75 = .ok (.getfield 9, 3) := by decide +kernel
theorem dX8_arrive_78 : decode cX8_arrive 78 = .ok (.iload_n 2, 1) := by decide +kernel
theorem dX8_arrive_79 : decode cX8_arrive 79 = .ok (.dup2, 1) := by decide +kernel
theorem dX8_arrive_80 : decode cX8_arrive 80 = .ok (.iaload, 1) := by decide +kernel
theorem dX8_arrive_81 : decode cX8_arrive 81 = .ok (.iload 4, 2) := by decide +kernel
theorem dX8_arrive_83 : decode cX8_arrive 83 = .ok (.iadd, 1) := by decide +kernel
theorem dX8_arrive_84 : decode cX8_arrive 84 = .ok (.iastore, 1) := by decide +kernel
theorem dX8_arrive_85 : decode cX8_arrive 85 = .ok (.return_, 1) := by decide +kernel
theorem dX8_arrive_86 : decode cX8_arrive 86 = .ok (.iload 4, 2) := by decide +kernel
theorem dX8_arrive_88 : decode cX8_arrive 88 = .ok (.iload 6, 2) := by decide +kernel
theorem dX8_arrive_90 : decode cX8_arrive 90 = .ok (.iconst 1, 1) := by decide +kernel
theorem dX8_arrive_91 : decode cX8_arrive 91 = .ok (.iadd, 1) := by decide +kernel
theorem dX8_arrive_92 : decode cX8_arrive 92 = .ok (.idiv, 1) := by decide +kernel
theorem dX8_arrive_93 : decode cX8_arrive 93 = .ok (.aload_n 0, 1) := by decide +kernel
theorem dX8_arrive_94 : decode cX8_arrive 94 = .ok (.getfield 24, 3) := by decide +kernel
theorem dX8_arrive_97 : decode cX8_arrive 97 = .ok (.getfield 75, 3) := by decide +kernel
theorem dX8_arrive_100 : decode cX8_arrive 100 = .ok (.iadd, 1) := by decide +kernel
theorem dX8_arrive_101 : decode cX8_arrive 101 = .ok (.istore 7, 2) := by decide +kernel
theorem dX8_arrive_103 : decode cX8_arrive 103 = .ok (.aload_n 0, 1) := by decide +kernel
theorem dX8_arrive_104 : decode cX8_arrive 104 = .ok (.getfield 28, 3) := by decide +kernel
theorem dX8_arrive_107 : decode cX8_arrive 107 = .ok (.getfield 78, 3) := by decide +kernel
theorem dX8_arrive_110 : decode cX8_arrive 110 = .ok (.iconst (-1), 1) := by decide +kernel
theorem dX8_arrive_111 : decode cX8_arrive 111 = .ok (.if_icmp .eq 57, 3) := by decide +kernel
theorem dX8_arrive_114 : decode cX8_arrive 114 = .ok (.aload_n 0, 1) := by decide +kernel
theorem dX8_arrive_115 : decode cX8_arrive 115 = .ok (.getfield 28, 3) := by decide +kernel
theorem dX8_arrive_118 : decode cX8_arrive 118 = .ok (.iload 4, 2) := by decide +kernel
theorem dX8_arrive_120 : decode cX8_arrive 120 = .ok (.aload_n 0, 1) := by decide +kernel
theorem dX8_arrive_121 : decode cX8_arrive 121 = .ok (.getfield 24, 3) := by decide +kernel
theorem dX8_arrive_124 : decode cX8_arrive 124 = .ok (.getfield 83, 3) := by decide +kernel
theorem dX8_arrive_127 : decode cX8_arrive 127 = .ok (.iload_n 2, 1) := by decide +kernel
theorem dX8_arrive_128 : decode cX8_arrive 128 = .ok (.iaload, 1) := by decide +kernel
theorem dX8_arrive_129 : decode cX8_arrive 129 = .ok (.aload_n 0, 1) := by decide +kernel
theorem dX8_arrive_130 : decode cX8_arrive 130 = .ok (.getfield 24, 3) := by decide +kernel
theorem dX8_arrive_133 : decode cX8_arrive 133 = .ok (.getfield 86, 3) := by decide +kernel
theorem dX8_arrive_136 : decode cX8_arrive 136 = .ok (.iload_n 2, 1) := by decide +kernel
theorem dX8_arrive_137 : decode cX8_arrive 137 = .ok (.iaload, 1) := by decide +kernel
theorem dX8_arrive_138 : decode cX8_arrive 138 = .ok (.aload_n 0, 1) := by decide +kernel
theorem dX8_arrive_139 : decode cX8_arrive 139 = .ok (.getfield 24, 3) := by decide +kernel
theorem dX8_arrive_142 : decode cX8_arrive 142 = .ok (.getfield 89, 3) := by decide +kernel
theorem dX8_arrive_145 : decode cX8_arrive 145 = .ok (.iload_n 2, 1) := by decide +kernel
theorem dX8_arrive_146 : decode cX8_arrive 146 = .ok (.iaload, 1) := by decide +kernel
theorem dX8_arrive_147 : decode cX8_arrive 147 = .ok (.iload 6, 2) := by decide +kernel
theorem dX8_arrive_149 : decode cX8_arrive 149 = .ok (.aload_n 0, 1) := by decide +kernel
theorem dX8_arrive_150 : decode cX8_arrive 150 = .ok (.getfield 24, 3) := by decide +kernel
theorem dX8_arrive_153 : decode cX8_arrive 153 = .ok (.getfield 75, 3) := by decide +kernel
theorem dX8_arrive_156 : decode cX8_arrive 156 = .ok (.invokevirtual 92, 3) := by decide +kernel
theorem dX8_arrive_159 : decode cX8_arrive 159 = .ok (.aload_n 0, 1) := by decide +kernel
theorem dX8_arrive_160 : decode cX8_arrive 160 = .ok (.getfield 28, 3) := by decide +kernel
theorem dX8_arrive_163 : decode cX8_arrive 163 = .ok (.invokevirtual 96, 3) := by decide +kernel
theorem dX8_arrive_166 : decode cX8_arrive 166 = .ok (.istore 7, 2) := by decide +kernel
theorem dX8_arrive_168 : decode cX8_arrive 168 = .ok (.iload 4, 2) := by decide +kernel
theorem dX8_arrive_170 : decode cX8_arrive 170 = .ok (.iconst 0, 1) := by decide +kernel
theorem dX8_arrive_171 : decode cX8_arrive 171 = .ok (.iload 4, 2) := by decide +kernel
theorem dX8_arrive_173 : decode cX8_arrive 173 = .ok (.iload 7, 2) := by decide +kernel
theorem dX8_arrive_175 : decode cX8_arrive 175 = .ok (.invokestatic 99, 3) := by decide +kernel
theorem dX8_arrive_178 : decode cX8_arrive 178 = .ok (.invokestatic 104, 3) := by decide +kernel
theorem dX8_arrive_181 : decode cX8_arrive 181 = .ok (.isub, 1) := by decide +kernel
theorem dX8_arrive_182 : decode cX8_arrive 182 = .ok (.iload 6, 2) := by decide +kernel
theorem dX8_arrive_184 : decode cX8_arrive 184 = .ok (.idiv, 1) := by decide +kernel
theorem dX8_arrive_185 : decode cX8_arrive 185 = .ok (.istore 8, 2) := by decide +kernel
theorem dX8_arrive_187 : decode cX8_arrive 187 = .ok (.aload_n 0, 1) := by decide +kernel
theorem dX8_arrive_188 : decode cX8_arrive 188 = .ok (.getfield 9, 3) := by decide +kernel
theorem dX8_arrive_191 : decode cX8_arrive 191 = .ok (.iload_n 2, 1) := by decide +kernel
theorem dX8_arrive_192 : decode cX8_arrive 192 = .ok (.dup2, 1) := by decide +kernel
theorem dX8_arrive_193 : decode cX8_arrive 193 = .ok (.iaload, 1) := by decide +kernel
theorem dX8_arrive_194 : decode cX8_arrive 194 = .ok (.iload 4, 2) := by decide +kernel
theorem dX8_arrive_196 : decode cX8_arrive 196 = .ok (.iload 8, 2) := by decide +kernel
theorem dX8_arrive_198 : decode cX8_arrive 198 = .ok (.iload 6, 2) := by decide +kernel
theorem dX8_arrive_200 : decode cX8_arrive 200 = .ok (.imul, 1) := by decide +kernel
theorem dX8_arrive_201 : decode cX8_arrive 201 = .ok (.isub, 1) := by decide +kernel
theorem dX8_arrive_202 : decode cX8_arrive 202 = .ok (.iadd, 1) := by decide +kernel
theorem dX8_arrive_203 : decode cX8_arrive 203 = .ok (.iastore, 1) := by decide +kernel
theorem dX8_arrive_204 : decode cX8_arrive 204 = .ok (.aload_n 0, 1) := by decide +kernel
theorem dX8_arrive_205 : decode cX8_arrive 205 = .ok (.iload_n 2, 1) := by decide +kernel
theorem dX8_arrive_206 : decode cX8_arrive 206 = .ok (.iload 5, 2) := by decide +kernel
theorem dX8_arrive_208 : decode cX8_arrive 208 = .ok (.iload 8, 2) := by decide +kernel
theorem dX8_arrive_210 : decode cX8_arrive 210 = .ok (.invokevirtual 107, 3) := by decide +kernel
theorem dX8_arrive_213 : decode cX8_arrive 213 = .ok (.return_, 1) := by decide +kernel
theorem dX8_pass_0 : decode cX8_pass 0 = .ok (.iconst 0, 1) := by decide +kernel
theorem dX8_pass_1 : decode cX8_pass 1 = .ok (.istore 4, 2) := by decide +kernel
theorem dX8_pass_3 : decode cX8_pass 3 = .ok (.iload 4, 2) := by decide +kernel
theorem dX8_pass_5 : decode cX8_pass 5 = .ok (.aload_n 0, 1) := by decide +kernel
theorem dX8_pass_6 : decode cX8_pass 6 = .ok (.getfield 24, 3) := by decide +kernel
theorem dX8_pass_9 : decode cX8_pass 9 = .ok (.getfield 110, 3) := by decide +kernel
theorem dX8_pass_12 : decode cX8_pass 12 = .ok (.if_icmp .gt 108, 3) := by decide +kernel
theorem dX8_pass_15 : decode cX8_pass 15 = .ok (.iload 4, 2) := by decide +kernel
theorem dX8_pass_17 : decode cX8_pass 17 = .ok (.bipush 17, 2) := by decide +kernel
theorem dX8_pass_19 : decode cX8_pass 19 = .ok (.if_icmp .ge 101, 3) := by decide +kernel
theorem dX8_pass_22 : decode cX8_pass 22 = .ok (.iload_n 2, 1) := by decide +kernel
theorem dX8_pass_23 : decode cX8_pass 23 = .ok (.iload 4, 2) := by decide +kernel
theorem dX8_pass_25 : decode cX8_pass 25 = .ok (.invokestatic 60, 3) := by decide +kernel
theorem dX8_pass_28 : decode cX8_pass 28 = .ok (.ifCond .ne 6, 3) := by decide +kernel
theorem dX8_pass_31 : decode cX8_pass 31 = .ok (.goto 83, 3) := by decide +kernel
theorem dX8_pass_34 : decode cX8_pass 34 = .ok (.iload_n 3, 1) := by decide +kernel
theorem dX8_pass_35 : decode cX8_pass 35 = .ok (.aload_n 0, 1) := by decide +kernel
theorem dX8_pass_36 : decode cX8_pass 36 = .ok (.getfield 24, 3) := by decide +kernel
theorem dX8_pass_39 : decode cX8_pass 39 = .ok (.getfield 113, 3) := by decide +kernel
theorem dX8_pass_42 : decode cX8_pass 42 = .ok (.iload 4, 2) := by decide +kernel
theorem dX8_pass_44 : decode cX8_pass 44 = .ok (.iaload, 1) := by decide +kernel
theorem dX8_pass_45 : decode cX8_pass 45 = .ok (.invokestatic 99, 3) := by decide +kernel
theorem dX8_pass_48 : decode cX8_pass 48 = .ok (.istore 5, 2) := by decide +kernel
theorem dX8_pass_50 : decode cX8_pass 50 = .ok (.aload_n 0, 1) := by decide +kernel
theorem dX8_pass_51 : decode cX8_pass 51 = .ok (.dup, 1) := by decide +kernel
theorem dX8_pass_52 : decode cX8_pass 52 = .ok (.getfield 45, 3) := by decide +kernel
theorem dX8_pass_55 : decode cX8_pass 55 = .ok (.iload 5, 2) := by decide +kernel
theorem dX8_pass_57 : decode cX8_pass 57 = .ok (.iadd, 1) := by decide +kernel
theorem dX8_pass_58 : decode cX8_pass 58 = .ok (.putfield 45, 3) := by decide +kernel
theorem dX8_pass_61 : decode cX8_pass 61 = .ok (.iload_n 3, 1) := by decide +kernel
theorem dX8_pass_62 : decode cX8_pass 62 = .ok (.iload 5, 2) := by decide +kernel
theorem dX8_pass_64 : decode cX8_pass 64 = .ok (.if_icmp .le 50, 3) := by decide +kernel
theorem dX8_pass_67 : decode cX8_pass 67 = .ok (.aload_n 0, 1) := by decide +kernel
theorem dX8_pass_68 : decode cX8_pass 68 = .ok (.aload_n 0, 1) := by decide +kernel
theorem dX8_pass_69 : decode cX8_pass 69 = .ok (.getfield 24, 3) := by decide +kernel
theorem dX8_pass_72 : decode cX8_pass 72 = .ok (.getfield 116, 3) := by decide +kernel
theorem dX8_pass_75 : decode cX8_pass 75 = .ok (.iload 4, 2) := by decide +kernel
theorem dX8_pass_77 : decode cX8_pass 77 = .ok (.iaload, 1) := by decide +kernel
theorem dX8_pass_78 : decode cX8_pass 78 = .ok (.iload_n 1, 1) := by decide +kernel
theorem dX8_pass_79 : decode cX8_pass 79 = .ok (.if_icmp .ne 16, 3) := by decide +kernel
theorem dX8_pass_82 : decode cX8_pass 82 = .ok (.aload_n 0, 1) := by decide +kernel
theorem dX8_pass_83 : decode cX8_pass 83 = .ok (.getfield 24, 3) := by decide +kernel
theorem dX8_pass_86 : decode cX8_pass 86 = .ok (.getfield 119, 3) := by decide +kernel
theorem dX8_pass_89 : decode cX8_pass 89 = .ok (.iload 4, 2) := by decide +kernel
theorem dX8_pass_91 : decode cX8_pass 91 = .ok (.iaload, 1) := by decide +kernel
theorem dX8_pass_92 : decode cX8_pass 92 = .ok (.goto 13, 3) := by decide +kernel
theorem dX8_pass_95 : decode cX8_pass 95 = .ok (.aload_n 0, 1) := by decide +kernel
theorem dX8_pass_96 : decode cX8_pass 96 = .ok (.getfield 24, 3) := by decide +kernel
theorem dX8_pass_99 : decode cX8_pass 99 = .ok (.getfield 116, 3) := by decide +kernel
theorem dX8_pass_102 : decode cX8_pass 102 = .ok (.iload 4, 2) := by decide +kernel
theorem dX8_pass_104 : decode cX8_pass 104 = .ok (.iaload, 1) := by decide +kernel
theorem dX8_pass_105 : decode cX8_pass 105 = .ok (.iload 4, 2) := by decide +kernel
theorem dX8_pass_107 : decode cX8_pass 107 = .ok (.iload_n 3, 1) := by decide +kernel
theorem dX8_pass_108 : decode cX8_pass 108 = .ok (.iload 5, 2) := by decide +kernel
theorem dX8_pass_110 : decode cX8_pass 110 = .ok (.isub, 1) := by decide +kernel
theorem dX8_pass_111 : decode cX8_pass 111 = .ok (.invokevirtual 48, 3) := by decide +kernel
theorem dX8_pass_114 : decode cX8_pass 114 = .ok (.iinc 4 1, 3) := by decide +kernel
theorem dX8_pass_117 : decode cX8_pass 117 = .ok (.goto (-114), 3) := by decide +kernel
theorem dX8_pass_120 : decode cX8_pass 120 = .ok (.return_, 1) := by decide +kernel
theorem dX8_burningBits_0 : decode cX8_burningBits 0 = .ok (.iconst 0, 1) := by decide +kernel
theorem dX8_burningBits_1 : decode cX8_burningBits 1 = .ok (.istore_n 1, 1) := by decide +kernel
theorem dX8_burningBits_2 : decode cX8_burningBits 2 = .ok (.iconst 0, 1) := by decide +kernel
theorem dX8_burningBits_3 : decode cX8_burningBits 3 = .ok (.istore_n 2, 1) := by decide +kernel
theorem dX8_burningBits_4 : decode cX8_burningBits 4 = .ok (.iload_n 2, 1) := by decide +kernel
theorem dX8_burningBits_5 : decode cX8_burningBits 5 = .ok (.aload_n 0, 1) := by decide +kernel
theorem dX8_burningBits_6 : decode cX8_burningBits 6 = .ok (.getfield 24, 3) := by decide +kernel
theorem dX8_burningBits_9 : decode cX8_burningBits 9 = .ok (.getfield 122, 3) := by decide +kernel
theorem dX8_burningBits_12 : decode cX8_burningBits 12 = .ok (.if_icmp .ge 33, 3) := by decide +kernel
theorem dX8_burningBits_15 : decode cX8_burningBits 15 = .ok (.aload_n 0, 1) := by decide +kernel
theorem dX8_burningBits_16 : decode cX8_burningBits 16 = .ok (.getfield 9, 3) := by decide +kernel
theorem dX8_burningBits_19 : decode cX8_burningBits 19 = .ok (.iload_n 2, 1) := by decide +kernel
theorem dX8_burningBits_20 : decode cX8_burningBits 20 = .ok (.iaload, 1) := by decide +kernel
theorem dX8_burningBits_21 : decode cX8_burningBits 21 = .ok (.aload_n 0, 1) := by decide +kernel
theorem dX8_burningBits_22 : decode cX8_burningBits 22 = .ok (.getfield 24, 3) := by decide +kernel
theorem dX8_burningBits_25 : decode cX8_burningBits 25 = .ok (.getfield 86, 3) := by decide +kernel
theorem dX8_burningBits_28 : decode cX8_burningBits 28 = .ok (.iload_n 2, 1) := by decide +kernel
theorem dX8_burningBits_29 : decode cX8_burningBits 29 = .ok (.iaload, 1) := by decide +kernel
theorem dX8_burningBits_30 : decode cX8_burningBits 30 = .ok (.if_icmp .le 9, 3) := by decide +kernel
theorem dX8_burningBits_33 : decode cX8_burningBits 33 = .ok (.iload_n 1, 1) := by decide +kernel
theorem dX8_burningBits_34 : decode cX8_burningBits 34 = .ok (.iconst 1, 1) := by decide +kernel
theorem dX8_burningBits_35 : decode cX8_burningBits 35 = .ok (.iload_n 2, 1) := by decide +kernel
theorem dX8_burningBits_36 : decode cX8_burningBits 36 = .ok (.ishl, 1) := by decide +kernel
theorem dX8_burningBits_37 : decode cX8_burningBits 37 = .ok (.ior, 1) := by decide +kernel
theorem dX8_burningBits_38 : decode cX8_burningBits 38 = .ok (.istore_n 1, 1) := by decide +kernel
theorem dX8_burningBits_39 : decode cX8_burningBits 39 = .ok (.iinc 2 1, 3) := by decide +kernel
theorem dX8_burningBits_42 : decode cX8_burningBits 42 = .ok (.goto (-38), 3) := by decide +kernel
theorem dX8_burningBits_45 : decode cX8_burningBits 45 = .ok (.iload_n 1, 1) := by decide +kernel
theorem dX8_burningBits_46 : decode cX8_burningBits 46 = .ok (.ireturn, 1) := by decide +kernel
theorem dX9_init_0 : decode cX9_init 0 = .ok (.aload_n 0, 1) := by decide +kernel
theorem dX9_init_1 : decode cX9_init 1 = .ok (.invokespecial 3, 3) := by decide +kernel
theorem dX9_init_4 : decode cX9_init 4 = .ok (.aload_n 0, 1) := by decide +kernel
theorem dX9_init_5 : decode cX9_init 5 = .ok (.sipush 240, 3) := by decide +kernel
theorem dX9_init_8 : decode cX9_init 8 = .ok (.newarray .int, 2) := by decide +kernel
theorem dX9_init_10 : decode cX9_init 10 = .ok (.putfield 9, 3) := by decide +kernel
theorem dX9_init_13 : decode cX9_init 13 = .ok (.return_, 1) := by decide +kernel
theorem dX9_addBytes_0 : decode cX9_addBytes 0 = .ok (.bipush 24, 2) := by decide +kernel
theorem dX9_addBytes_2 : decode cX9_addBytes 2 = .ok (.istore_n 2, 1) := by decide +kernel
theorem dX9_addBytes_3 : decode cX9_addBytes 3 = .ok (.iload_n 2, 1) := by decide +kernel
theorem dX9_addBytes_4 : decode cX9_addBytes 4 = .ok (.ifCond .lt 53, 3) := by decide +kernel
theorem dX9_addBytes_7 : decode cX9_addBytes 7 = .ok (.iload_n 1, 1) := by decide +kernel
theorem dX9_addBytes_8 : decode cX9_addBytes 8 = .ok (.iload_n 2, 1) := by decide +kernel
theorem dX9_addBytes_9 : decode cX9_addBytes 9 = .ok (.ishr, 1) := by decide +kernel
theorem dX9_addBytes_10 : decode cX9_addBytes 10 = .ok (.sipush 255, 3) := by decide +kernel
theorem dX9_addBytes_13 : decode cX9_addBytes 13 = .ok (.iand, 1) := by decide +kernel
theorem dX9_addBytes_14 : decode cX9_addBytes 14 = .ok (.istore_n 3, 1) := by decide +kernel
theorem dX9_addBytes_15 : decode cX9_addBytes 15 = .ok (.iload_n 3, 1) := by decide +kernel
theorem dX9_addBytes_16 : decode cX9_addBytes 16 = .ok (.ifCond .eq 35, 3) := by decide +kernel
theorem dX9_addBytes_19 : decode cX9_addBytes 19 = .ok (.aload_n 0, 1) := by decide +kernel
theorem dX9_addBytes_20 : decode cX9_addBytes 20 = .ok (.getfield 15, 3) := by decide +kernel
theorem dX9_addBytes_23 : decode cX9_addBytes 23 = .ok (.aload_n 0, 1) := by decide +kernel
theorem dX9_addBytes_24 : decode cX9_addBytes 24 = .ok (.getfield 9, 3) := by decide +kernel
theorem dX9_addBytes_27 : decode cX9_addBytes 27 = .ok (.arraylength, 1) := by decide +kernel
theorem dX9_addBytes_28 : decode cX9_addBytes 28 = .ok (.if_icmp .ge 23, 3) := by decide +kernel
theorem dX9_addBytes_31 : decode cX9_addBytes 31 = .ok (.aload_n 0, 1) := by decide +kernel
theorem dX9_addBytes_32 : decode cX9_addBytes 32 = .ok (.getfield 9, 3) := by decide +kernel
theorem dX9_addBytes_35 : decode cX9_addBytes 35 = .ok (.aload_n 0, 1) := by decide +kernel
theorem dX9_addBytes_36 : decode cX9_addBytes 36 = .ok (.getfield 15, 3) := by decide +kernel
theorem dX9_addBytes_39 : decode cX9_addBytes 39 = .ok (.iload_n 3, 1) := by decide +kernel
theorem dX9_addBytes_40 : decode cX9_addBytes 40 = .ok (.iastore, 1) := by decide +kernel
theorem dX9_addBytes_41 : decode cX9_addBytes 41 = .ok (.aload_n 0, 1) := by decide +kernel
theorem dX9_addBytes_42 : decode cX9_addBytes 42 = .ok (.dup, 1) := by decide +kernel
theorem dX9_addBytes_43 : decode cX9_addBytes 43 = .ok (.getfield 15, 3) := by decide +kernel
theorem dX9_addBytes_46 : decode cX9_addBytes 46 = .ok (.iconst 1, 1) := by decide +kernel
theorem dX9_addBytes_47 : decode cX9_addBytes 47 = .ok (.iadd, 1) := by decide +kernel
theorem dX9_addBytes_48 : decode cX9_addBytes 48 = .ok (.putfield 15, 3) := by decide +kernel
theorem dX9_addBytes_51 : decode cX9_addBytes 51 = .ok (.iinc 2 (-8), 3) := by decide +kernel
theorem dX9_addBytes_54 : decode cX9_addBytes 54 = .ok (.goto (-51), 3) := by decide +kernel
theorem dX9_addBytes_57 : decode cX9_addBytes 57 = .ok (.return_, 1) := by decide +kernel
theorem dX9_sign_0 : decode cX9_sign 0 = .ok (.aload_n 0, 1) := by decide +kernel
theorem dX9_sign_1 : decode cX9_sign 1 = .ok (.getfield 19, 3) := by decide +kernel
theorem dX9_sign_4 : decode cX9_sign 4 = .ok (.aload_n 0, 1) := by decide +kernel
theorem dX9_sign_5 : decode cX9_sign 5 = .ok (.getfield 15, 3) := by decide +kernel
theorem dX9_sign_8 : decode cX9_sign 8 = .ok (.if_icmp .ge 30, 3) := by decide +kernel
theorem dX9_sign_11 : decode cX9_sign 11 = .ok (.aload_n 0, 1) := by decide +kernel
theorem dX9_sign_12 : decode cX9_sign 12 = .ok (.getfield 9, 3) := by decide +kernel
theorem dX9_sign_15 : decode cX9_sign 15 = .ok (.aload_n 0, 1) := by decide +kernel
theorem dX9_sign_16 : decode cX9_sign 16 = .ok (.getfield 19, 3) := by decide +kernel
theorem dX9_sign_19 : decode cX9_sign 19 = .ok (.iaload, 1) := by decide +kernel
theorem dX9_sign_20 : decode cX9_sign 20 = .ok (.bipush 32, 2) := by decide +kernel
theorem dX9_sign_22 : decode cX9_sign 22 = .ok (.if_icmp .ne 16, 3) := by decide +kernel
theorem dX9_sign_25 : decode cX9_sign 25 = .ok (.aload_n 0, 1) := by decide +kernel
theorem dX9_sign_26 : decode cX9_sign 26 = .ok (.dup, 1) := by decide +kernel
theorem dX9_sign_27 : decode cX9_sign 27 = .ok (.getfield 19, 3) := by decide +kernel
theorem dX9_sign_30 : decode cX9_sign 30 = .ok (.iconst 1, 1) := by decide +kernel
theorem dX9_sign_31 : decode cX9_sign 31 = .ok (.iadd, 1) := by decide +kernel
theorem dX9_sign_32 : decode cX9_sign 32 = .ok (.putfield 19, 3) := by decide +kernel
theorem dX9_sign_35 : decode cX9_sign 35 = .ok (.goto (-35), 3) := by decide +kernel
theorem dX9_sign_38 : decode cX9_sign 38 = .ok (.aload_n 0, 1) := by decide +kernel
theorem dX9_sign_39 : decode cX9_sign 39 = .ok (.getfield 19, 3) := by decide +kernel
theorem dX9_sign_42 : decode cX9_sign 42 = .ok (.aload_n 0, 1) := by decide +kernel
theorem dX9_sign_43 : decode cX9_sign 43 = .ok (.getfield 15, 3) := by decide +kernel
theorem dX9_sign_46 : decode cX9_sign 46 = .ok (.if_icmp .ge 15, 3) := by decide +kernel
theorem dX9_sign_49 : decode cX9_sign 49 = .ok (.aload_n 0, 1) := by decide +kernel
theorem dX9_sign_50 : decode cX9_sign 50 = .ok (.getfield 9, 3) := by decide +kernel
theorem dX9_sign_53 : decode cX9_sign 53 = .ok (.aload_n 0, 1) := by decide +kernel
theorem dX9_sign_54 : decode cX9_sign 54 = .ok (.getfield 19, 3) := by decide +kernel
theorem dX9_sign_57 : decode cX9_sign 57 = .ok (.iaload, 1) := by decide +kernel
theorem dX9_sign_58 : decode cX9_sign 58 = .ok (.goto 4, 3) := by decide +kernel
theorem dX9_sign_61 : decode cX9_sign 61 = .ok (.iconst (-1), 1) := by decide +kernel
theorem dX9_sign_62 : decode cX9_sign 62 = .ok (.ireturn, 1) := by decide +kernel
theorem dX9_takes_0 : decode cX9_takes 0 = .ok (.aload_n 0, 1) := by decide +kernel
theorem dX9_takes_1 : decode cX9_takes 1 = .ok (.invokevirtual 22, 3) := by decide +kernel
theorem dX9_takes_4 : decode cX9_takes 4 = .ok (.iload_n 1, 1) := by decide +kernel
theorem dX9_takes_5 : decode cX9_takes 5 = .ok (.if_icmp .eq 5, 3) := by decide +kernel
theorem dX9_takes_8 : decode cX9_takes 8 = .ok (.iconst 0, 1) := by decide +kernel
theorem dX9_takes_9 : decode cX9_takes 9 = .ok (.ireturn, 1) := by decide +kernel
theorem dX9_takes_10 : decode cX9_takes 10 = .ok (.aload_n 0, 1) := by decide +kernel
theorem dX9_takes_11 : decode cX9_takes 11 = .ok (.dup, 1) := by decide +kernel
theorem dX9_takes_12 : decode cX9_takes 12 = .ok (.getfield 19, 3) := by decide +kernel
theorem dX9_takes_15 : decode cX9_takes 15 = .ok (.iconst 1, 1) := by decide +kernel
theorem dX9_takes_16 : decode cX9_takes 16 = .ok (.iadd, 1) := by decide +kernel
theorem dX9_takes_17 : decode cX9_takes 17 = .ok (.putfield 19, 3) := by decide +kernel
theorem dX9_takes_20 : decode cX9_takes 20 = .ok (.iconst 1, 1) := by decide +kernel
theorem dX9_takes_21 : decode cX9_takes 21 = .ok (.ireturn, 1) := by decide +kernel
theorem dX9_takesNumber_0 : decode cX9_takesNumber 0 = .ok (.aload_n 0, 1) := by decide +kernel
theorem dX9_takesNumber_1 : decode cX9_takesNumber 1 = .ok (.invokevirtual 22, 3) := by decide +kernel
theorem dX9_takesNumber_4 : decode cX9_takesNumber 4 = .ok (.pop, 1) := by decide +kernel
theorem dX9_takesNumber_5 : decode cX9_takesNumber 5 = .ok (.aload_n 0, 1) := by decide +kernel
theorem dX9_takesNumber_6 : decode cX9_takesNumber 6 = .ok (.invokevirtual 26, 3) := by decide +kernel
theorem dX9_takesNumber_9 : decode cX9_takesNumber 9 = .ok (.ifCond .ne 5, 3) := by decide +kernel
theorem dX9_takesNumber_12 : decode cX9_takesNumber 12 = .ok (.iconst 0, 1) := by decide +kernel
theorem dX9_takesNumber_13 : decode cX9_takesNumber 13 = .ok (.ireturn, 1) := by decide +kernel
theorem dX9_takesNumber_14 : decode cX9_takesNumber 14 = .ok (.aload_n 0, 1) := by decide +kernel
theorem dX9_takesNumber_15 : decode cX9_takesNumber 15 = .ok (.iconst 0, 1) := by decide +kernel
theorem dX9_takesNumber_16 : decode cX9_takesNumber 16 = .ok (.putfield 30, 3) := by decide +kernel
theorem dX9_takesNumber_19 : decode cX9_takesNumber 19 = .ok (.iconst 0, 1) := by decide +kernel
theorem dX9_takesNumber_20 : decode cX9_takesNumber 20 = .ok (.istore_n 2, 1) := by decide +kernel
theorem dX9_takesNumber_21 : decode cX9_takesNumber 21 = .ok (.iload_n 2, 1) := by decide +kernel
theorem dX9_takesNumber_22 : decode cX9_takesNumber 22 = .ok (.iload_n 1, 1) := by decide +kernel
theorem dX9_takesNumber_23 : decode cX9_takesNumber 23 = .ok (.if_icmp .ge 50, 3) := by decide +kernel
theorem dX9_takesNumber_26 : decode cX9_takesNumber 26 = .ok (.aload_n 0, 1) := by decide +kernel
theorem dX9_takesNumber_27 : decode cX9_takesNumber 27 = .ok (.invokevirtual 26, 3) := by decide +kernel
theorem dX9_takesNumber_30 : decode cX9_takesNumber 30 = .ok (.ifCond .eq 43, 3) := by decide +kernel
theorem dX9_takesNumber_33 : decode cX9_takesNumber 33 = .ok (.aload_n 0, 1) := by decide +kernel
theorem dX9_takesNumber_34 : decode cX9_takesNumber 34 = .ok (.aload_n 0, 1) := by decide +kernel
theorem dX9_takesNumber_35 : decode cX9_takesNumber 35 = .ok (.getfield 30, 3) := by decide +kernel
theorem dX9_takesNumber_38 : decode cX9_takesNumber 38 = .ok (.bipush 10, 2) := by decide +kernel
theorem dX9_takesNumber_40 : decode cX9_takesNumber 40 = .ok (.imul, 1) := by decide +kernel
theorem dX9_takesNumber_41 : decode cX9_takesNumber 41 = .ok (.aload_n 0, 1) := by decide +kernel
theorem dX9_takesNumber_42 : decode cX9_takesNumber 42 = .ok (.getfield 9, 3) := by decide +kernel
theorem dX9_takesNumber_45 : decode cX9_takesNumber 45 = .ok (.aload_n 0, 1) := by decide +kernel
theorem dX9_takesNumber_46 : decode cX9_takesNumber 46 = .ok (.getfield 19, 3) := by decide +kernel
theorem dX9_takesNumber_49 : decode cX9_takesNumber 49 = .ok (.iaload, 1) := by decide +kernel
theorem dX9_takesNumber_50 : decode cX9_takesNumber 50 = .ok (.iadd, 1) := by decide +kernel
theorem dX9_takesNumber_51 : decode cX9_takesNumber 51 = .ok (.bipush 48, 2) := by decide +kernel
theorem dX9_takesNumber_53 : decode cX9_takesNumber 53 = .ok (.isub, 1) := by decide +kernel
theorem dX9_takesNumber_54 : decode cX9_takesNumber 54 = .ok (.putfield 30, 3) := by decide +kernel
theorem dX9_takesNumber_57 : decode cX9_takesNumber 57 = .ok (.aload_n 0, 1) := by decide +kernel
theorem dX9_takesNumber_58 : decode cX9_takesNumber 58 = .ok (.dup, 1) := by decide +kernel
theorem dX9_takesNumber_59 : decode cX9_takesNumber 59 = .ok (.getfield 19, 3) := by decide +kernel
theorem dX9_takesNumber_62 : decode cX9_takesNumber 62 = .ok (.iconst 1, 1) := by decide +kernel
theorem dX9_takesNumber_63 : decode cX9_takesNumber 63 = .ok (.iadd, 1) := by decide +kernel
theorem dX9_takesNumber_64 : decode cX9_takesNumber 64 = .ok (.putfield 19, 3) := by decide +kernel
theorem dX9_takesNumber_67 : decode cX9_takesNumber 67 = .ok (.iinc 2 1, 3) := by decide +kernel
theorem dX9_takesNumber_70 : decode cX9_takesNumber 70 = .ok (.goto (-49), 3) := by decide +kernel
theorem dX9_takesNumber_73 : decode cX9_takesNumber 73 = .ok (.aload_n 0, 1) := by decide +kernel
theorem dX9_takesNumber_74 : decode cX9_takesNumber 74 = .ok (.invokevirtual 26, 3) := by decide +kernel
theorem dX9_takesNumber_77 : decode cX9_takesNumber 77 = .ok (.ifCond .ne 7, 3) := by decide +kernel
theorem dX9_takesNumber_80 : decode cX9_takesNumber 80 = .ok (.iconst 1, 1) := by decide +kernel
theorem dX9_takesNumber_81 : decode cX9_takesNumber 81 = .ok (.goto 4, 3) := by decide +kernel
theorem dX9_takesNumber_84 : decode cX9_takesNumber 84 = .ok (.iconst 0, 1) := by decide +kernel
theorem dX9_takesNumber_85 : decode cX9_takesNumber 85 = .ok (.ireturn, 1) := by decide +kernel
theorem dX9_atDigit_0 : decode cX9_atDigit 0 = .ok (.aload_n 0, 1) := by decide +kernel
theorem dX9_atDigit_1 : decode cX9_atDigit 1 = .ok (.getfield 19, 3) := by decide +kernel
theorem dX9_atDigit_4 : decode cX9_atDigit 4 = .ok (.aload_n 0, 1) := by decide +kernel
theorem dX9_atDigit_5 : decode cX9_atDigit 5 = .ok (.getfield 15, 3) := by decide +kernel
theorem dX9_atDigit_8 : decode cX9_atDigit 8 = .ok (.if_icmp .ge 35, 3) := by decide +kernel
theorem dX9_atDigit_11 : decode cX9_atDigit 11 = .ok (.aload_n 0, 1) := by decide +kernel
theorem dX9_atDigit_12 : decode cX9_atDigit 12 = .ok (.getfield 9, 3) := by decide +kernel
theorem dX9_atDigit_15 : decode cX9_atDigit 15 = .ok (.aload_n 0, 1) := by decide +kernel
theorem dX9_atDigit_16 : decode cX9_atDigit 16 = .ok (.getfield 19, 3) := by decide +kernel
theorem dX9_atDigit_19 : decode cX9_atDigit 19 = .ok (.iaload, 1) := by decide +kernel
theorem dX9_atDigit_20 : decode cX9_atDigit 20 = .ok (.bipush 48, 2) := by decide +kernel
theorem dX9_atDigit_22 : decode cX9_atDigit 22 = .ok (.if_icmp .lt 21, 3) := by decide +kernel
theorem dX9_atDigit_25 : decode cX9_atDigit 25 = .ok (.aload_n 0, 1) := by decide +kernel
theorem dX9_atDigit_26 : decode cX9_atDigit 26 = .ok (.getfield 9, 3) := by decide +kernel
theorem dX9_atDigit_29 : decode cX9_atDigit 29 = .ok (.aload_n 0, 1) := by decide +kernel
theorem dX9_atDigit_30 : decode cX9_atDigit 30 = .ok (.getfield 19, 3) := by decide +kernel
theorem dX9_atDigit_33 : decode cX9_atDigit 33 = .ok (.iaload, 1) := by decide +kernel
theorem dX9_atDigit_34 : decode cX9_atDigit 34 = .ok (.bipush 57, 2) := by decide +kernel
theorem dX9_atDigit_36 : decode cX9_atDigit 36 = .ok (.if_icmp .gt 7, 3) := by decide +kernel
theorem dX9_atDigit_39 : decode cX9_atDigit 39 = .ok (.iconst 1, 1) := by decide +kernel
theorem dX9_atDigit_40 : decode cX9_atDigit 40 = .ok (.goto 4, 3) := by decide +kernel
theorem dX9_atDigit_43 : decode cX9_atDigit 43 = .ok (.iconst 0, 1) := by decide +kernel
theorem dX9_atDigit_44 : decode cX9_atDigit 44 = .ok (.ireturn, 1) := by decide +kernel
theorem dX10_init_0 : decode cX10_init 0 = .ok (.aload_n 0, 1) := by decide +kernel
theorem dX10_init_1 : decode cX10_init 1 = .ok (.invokespecial 3, 3) := by decide +kernel
theorem dX10_init_4 : decode cX10_init 4 = .ok (.aload_n 0, 1) := by decide +kernel
theorem dX10_init_5 : decode cX10_init 5 = .ok (.bipush 120, 2) := by decide +kernel
theorem dX10_init_7 : decode cX10_init 7 = .ok (.newarray .int, 2) := by decide +kernel
theorem dX10_init_9 : decode cX10_init 9 = .ok (.putfield 11, 3) := by decide +kernel
theorem dX10_init_12 : decode cX10_init 12 = .ok (.return_, 1) := by decide +kernel
theorem dX10_gather_0 : decode cX10_gather 0 = .ok (.aload_n 0, 1) := by decide +kernel
theorem dX10_gather_1 : decode cX10_gather 1 = .ok (.iconst 0, 1) := by decide +kernel
theorem dX10_gather_2 : decode cX10_gather 2 = .ok (.putfield 15, 3) := by decide +kernel
theorem dX10_gather_5 : decode cX10_gather 5 = .ok (.iload_n 2, 1) := by decide +kernel
theorem dX10_gather_6 : decode cX10_gather 6 = .ok (.ifCond .ne 9, 3) := by decide +kernel
theorem dX10_gather_9 : decode cX10_gather 9 = .ok (.aload_n 0, 1) := by decide +kernel
theorem dX10_gather_10 : decode cX10_gather 10 = .ok (.iconst 0, 1) := by decide +kernel
theorem dX10_gather_11 : decode cX10_gather 11 = .ok (.invokevirtual 19, 3) := by decide +kernel
theorem dX10_gather_14 : decode cX10_gather 14 = .ok (.return_, 1) := by decide +kernel
theorem dX10_gather_15 : decode cX10_gather 15 = .ok (.iconst 0, 1) := by decide +kernel
theorem dX10_gather_16 : decode cX10_gather 16 = .ok (.istore_n 3, 1) := by decide +kernel
theorem dX10_gather_17 : decode cX10_gather 17 = .ok (.iload_n 3, 1) := by decide +kernel
theorem dX10_gather_18 : decode cX10_gather 18 = .ok (.bipush 16, 2) := by decide +kernel
theorem dX10_gather_20 : decode cX10_gather 20 = .ok (.if_icmp .ge 72, 3) := by decide +kernel
theorem dX10_gather_23 : decode cX10_gather 23 = .ok (.iload_n 1, 1) := by decide +kernel
theorem dX10_gather_24 : decode cX10_gather 24 = .ok (.iload_n 3, 1) := by decide +kernel
theorem dX10_gather_25 : decode cX10_gather 25 = .ok (.invokestatic 23, 3) := by decide +kernel
theorem dX10_gather_28 : decode cX10_gather 28 = .ok (.ifCond .ne 6, 3) := by decide +kernel
theorem dX10_gather_31 : decode cX10_gather 31 = .ok (.goto 55, 3) := by decide +kernel
theorem dX10_gather_34 : decode cX10_gather 34 = .ok (.iload_n 2, 1) := by decide +kernel
theorem dX10_gather_35 : decode cX10_gather 35 = .ok (.iconst 1, 1) := by decide +kernel
theorem dX10_gather_36 : decode cX10_gather 36 = .ok (.if_icmp .ne 13, 3) := by decide +kernel
theorem dX10_gather_39 : decode cX10_gather 39 = .ok (.aload_n 0, 1) := by decide +kernel
theorem dX10_gather_40 : decode cX10_gather 40 = .ok (.iconst 1, 1) := by decide +kernel
theorem dX10_gather_41 : decode cX10_gather 41 = .ok (.iload_n 3, 1) := by decide +kernel
theorem dX10_gather_42 : decode cX10_gather 42 = .ok (.ishl, 1) := by decide +kernel
theorem dX10_gather_43 : decode cX10_gather 43 = .ok (.invokevirtual 19, 3) := by decide +kernel
theorem dX10_gather_46 : decode cX10_gather 46 = .ok (.goto 40, 3) := by decide +kernel
theorem dX10_gather_49 : decode cX10_gather 49 = .ok (.iconst 0, 1) := by decide +kernel
theorem dX10_gather_50 : decode cX10_gather 50 = .ok (.istore 4, 2) := by decide +kernel
theorem dX10_gather_52 : decode cX10_gather 52 = .ok (.iload 4, 2) := by decide +kernel
theorem dX10_gather_54 : decode cX10_gather 54 = .ok (.iload_n 3, 1) := by decide +kernel
theorem dX10_gather_55 : decode cX10_gather 55 = .ok (.if_icmp .ge 31, 3) := by decide +kernel
theorem dX10_gather_58 : decode cX10_gather 58 = .ok (.iload_n 1, 1) := by decide +kernel
theorem dX10_gather_59 : decode cX10_gather 59 = .ok (.iload 4, 2) := by decide +kernel
theorem dX10_gather_61 : decode cX10_gather 61 = .ok (.invokestatic 23, 3) := by decide +kernel
theorem dX10_gather_64 : decode cX10_gather 64 = .ok (.iconst 1, 1) := by decide +kernel
theorem dX10_gather_65 : decode cX10_gather 65 = .ok (.if_icmp .ne 15, 3) := by decide +kernel
theorem dX10_gather_68 : decode cX10_gather 68 = .ok (.aload_n 0, 1) := by decide +kernel
theorem dX10_gather_69 : decode cX10_gather 69 = .ok (.iconst 1, 1) := by decide +kernel
theorem dX10_gather_70 : decode cX10_gather 70 = .ok (.iload_n 3, 1) := by decide +kernel
theorem dX10_gather_71 : decode cX10_gather 71 = .ok (.ishl, 1) := by decide +kernel
theorem dX10_gather_72 : decode cX10_gather 72 = .ok (.iconst 1, 1) := by decide +kernel
theorem dX10_gather_73 : decode cX10_gather 73 = .ok (.iload 4, 2) := by decide +kernel
theorem dX10_gather_75 : decode cX10_gather 75 = .ok (.ishl, 1) := by decide +kernel
theorem dX10_gather_76 : decode cX10_gather 76 = .ok (.ior, 1) := by decide +kernel
theorem dX10_gather_77 : decode cX10_gather 77 = .ok (.invokevirtual 19, 3) := by decide +kernel
theorem dX10_gather_80 : decode cX10_gather 80 = .ok (.iinc 4 1, 3) := by decide +kernel
theorem dX10_gather_83 : decode cX10_gather 83 = .ok (.goto (-31), 3) := by decide +kernel
theorem dX10_gather_86 : decode cX10_gather 86 = .ok (.iinc 3 1, 3) := by decide +kernel
theorem dX10_gather_89 : decode cX10_gather 89 = .ok (.goto (-72), 3) := by decide +kernel
theorem dX10_gather_92 : decode cX10_gather 92 = .ok (.return_, 1) := by decide +kernel
theorem dX10_add_0 : decode cX10_add 0 = .ok (.aload_n 0, 1) := by decide +kernel
theorem dX10_add_1 : decode cX10_add 1 = .ok (.getfield 15, 3) := by decide +kernel
theorem dX10_add_4 : decode cX10_add 4 = .ok (.aload_n 0, 1) := by decide +kernel
theorem dX10_add_5 : decode cX10_add 5 = .ok (.getfield 11, 3) := by decide +kernel
theorem dX10_add_8 : decode cX10_add 8 = .ok (.arraylength, 1) := by decide +kernel
theorem dX10_add_9 : decode cX10_add 9 = .ok (.if_icmp .ge 23, 3) := by decide +kernel
theorem dX10_add_12 : decode cX10_add 12 = .ok (.aload_n 0, 1) := by decide +kernel
theorem dX10_add_13 : decode cX10_add 13 = .ok (.getfield 11, 3) := by decide +kernel
theorem dX10_add_16 : decode cX10_add 16 = .ok (.aload_n 0, 1) := by decide +kernel
theorem dX10_add_17 : decode cX10_add 17 = .ok (.getfield 15, 3) := by decide +kernel
theorem dX10_add_20 : decode cX10_add 20 = .ok (.iload_n 1, 1) := by decide +kernel
theorem dX10_add_21 : decode cX10_add 21 = .ok (.iastore, 1) := by decide +kernel
theorem dX10_add_22 : decode cX10_add 22 = .ok (.aload_n 0, 1) := by decide +kernel
theorem dX10_add_23 : decode cX10_add 23 = .ok (.dup, 1) := by decide +kernel
theorem dX10_add_24 : decode cX10_add 24 = .ok (.getfield 15, 3) := by decide +kernel
theorem dX10_add_27 : decode cX10_add 27 = .ok (.iconst 1, 1) := by decide +kernel
theorem dX10_add_28 : decode cX10_add 28 = .ok (.iadd, 1) := by decide +kernel
theorem dX10_add_29 : decode cX10_add 29 = .ok (.putfield 15, 3) := by decide +kernel
theorem dX10_add_32 : decode cX10_add 32 = .ok (.return_, 1) := by decide +kernel
theorem dJ6_numberOfTrailingZeros_0f7a4_0 : decode cJ6_numberOfTrailingZeros_0f7a4 0 = .ok (.iload_n 0, 1) := by decide +kernel
theorem dJ6_numberOfTrailingZeros_0f7a4_1 : decode cJ6_numberOfTrailingZeros_0f7a4 1 = .ok (.iconst (-1), 1) := by decide +kernel
theorem dJ6_numberOfTrailingZeros_0f7a4_2 : decode cJ6_numberOfTrailingZeros_0f7a4 2 = .ok (.ixor, 1) := by decide +kernel
theorem dJ6_numberOfTrailingZeros_0f7a4_3 : decode cJ6_numberOfTrailingZeros_0f7a4 3 = .ok (.iload_n 0, 1) := by decide +kernel
theorem dJ6_numberOfTrailingZeros_0f7a4_4 : decode cJ6_numberOfTrailingZeros_0f7a4 4 = .ok (.iconst 1, 1) := by decide +kernel
theorem dJ6_numberOfTrailingZeros_0f7a4_5 : decode cJ6_numberOfTrailingZeros_0f7a4 5 = .ok (.isub, 1) := by decide +kernel
theorem dJ6_numberOfTrailingZeros_0f7a4_6 : decode cJ6_numberOfTrailingZeros_0f7a4 6 = .ok (.iand, 1) := by decide +kernel
theorem dJ6_numberOfTrailingZeros_0f7a4_7 : decode cJ6_numberOfTrailingZeros_0f7a4 7 = .ok (.istore_n 0, 1) := by decide +kernel
theorem dJ6_numberOfTrailingZeros_0f7a4_8 : decode cJ6_numberOfTrailingZeros_0f7a4 8 = .ok (.iload_n 0, 1) := by decide +kernel
theorem dJ6_numberOfTrailingZeros_0f7a4_9 : decode cJ6_numberOfTrailingZeros_0f7a4 9 = .ok (.ifCond .gt 8, 3) := by decide +kernel
theorem dJ6_numberOfTrailingZeros_0f7a4_12 : decode cJ6_numberOfTrailingZeros_0f7a4 12 = .ok (.iload_n 0, 1) := by decide +kernel
theorem dJ6_numberOfTrailingZeros_0f7a4_13 : decode cJ6_numberOfTrailingZeros_0f7a4 13 = .ok (.bipush 32, 2) := by decide +kernel
theorem dJ6_numberOfTrailingZeros_0f7a4_15 : decode cJ6_numberOfTrailingZeros_0f7a4 15 = .ok (.iand, 1) := by decide +kernel
theorem dJ6_numberOfTrailingZeros_0f7a4_16 : decode cJ6_numberOfTrailingZeros_0f7a4 16 = .ok (.ireturn, 1) := by decide +kernel
theorem dJ6_numberOfTrailingZeros_0f7a4_17 : decode cJ6_numberOfTrailingZeros_0f7a4 17 = .ok (.iconst 1, 1) := by decide +kernel
theorem dJ6_numberOfTrailingZeros_0f7a4_18 : decode cJ6_numberOfTrailingZeros_0f7a4 18 = .ok (.istore_n 1, 1) := by decide +kernel
theorem dJ6_numberOfTrailingZeros_0f7a4_19 : decode cJ6_numberOfTrailingZeros_0f7a4 19 = .ok (.iload_n 0, 1) := by decide +kernel
theorem dJ6_numberOfTrailingZeros_0f7a4_20 : decode cJ6_numberOfTrailingZeros_0f7a4 20 = .ok (.ldc_w 264, 3) := by decide +kernel
theorem dJ6_numberOfTrailingZeros_0f7a4_23 : decode cJ6_numberOfTrailingZeros_0f7a4 23 = .ok (.if_icmp .le 11, 3) := by decide +kernel
theorem dJ6_numberOfTrailingZeros_0f7a4_26 : decode cJ6_numberOfTrailingZeros_0f7a4 26 = .ok (.iinc 1 16, 3) := by decide +kernel
theorem dJ6_numberOfTrailingZeros_0f7a4_29 : decode cJ6_numberOfTrailingZeros_0f7a4 29 = .ok (.iload_n 0, 1) := by decide +kernel
theorem dJ6_numberOfTrailingZeros_0f7a4_30 : decode cJ6_numberOfTrailingZeros_0f7a4 30 = .ok (.bipush 16, 2) := by decide +kernel
theorem dJ6_numberOfTrailingZeros_0f7a4_32 : decode cJ6_numberOfTrailingZeros_0f7a4 32 = .ok (.iushr, 1) := by decide +kernel
theorem dJ6_numberOfTrailingZeros_0f7a4_33 : decode cJ6_numberOfTrailingZeros_0f7a4 33 = .ok (.istore_n 0, 1) := by decide +kernel
theorem dJ6_numberOfTrailingZeros_0f7a4_34 : decode cJ6_numberOfTrailingZeros_0f7a4 34 = .ok (.iload_n 0, 1) := by decide +kernel
theorem dJ6_numberOfTrailingZeros_0f7a4_35 : decode cJ6_numberOfTrailingZeros_0f7a4 35 = .ok (.sipush 256, 3) := by decide +kernel
theorem dJ6_numberOfTrailingZeros_0f7a4_38 : decode cJ6_numberOfTrailingZeros_0f7a4 38 = .ok (.if_icmp .le 11, 3) := by decide +kernel
theorem dJ6_numberOfTrailingZeros_0f7a4_41 : decode cJ6_numberOfTrailingZeros_0f7a4 41 = .ok (.iinc 1 8, 3) := by decide +kernel
theorem dJ6_numberOfTrailingZeros_0f7a4_44 : decode cJ6_numberOfTrailingZeros_0f7a4 44 = .ok (.iload_n 0, 1) := by decide +kernel
theorem dJ6_numberOfTrailingZeros_0f7a4_45 : decode cJ6_numberOfTrailingZeros_0f7a4 45 = .ok (.bipush 8, 2) := by decide +kernel
theorem dJ6_numberOfTrailingZeros_0f7a4_47 : decode cJ6_numberOfTrailingZeros_0f7a4 47 = .ok (.iushr, 1) := by decide +kernel
theorem dJ6_numberOfTrailingZeros_0f7a4_48 : decode cJ6_numberOfTrailingZeros_0f7a4 48 = .ok (.istore_n 0, 1) := by decide +kernel
theorem dJ6_numberOfTrailingZeros_0f7a4_49 : decode cJ6_numberOfTrailingZeros_0f7a4 49 = .ok (.iload_n 0, 1) := by decide +kernel
theorem dJ6_numberOfTrailingZeros_0f7a4_50 : decode cJ6_numberOfTrailingZeros_0f7a4 50 = .ok (.bipush 16, 2) := by decide +kernel
theorem dJ6_numberOfTrailingZeros_0f7a4_52 : decode cJ6_numberOfTrailingZeros_0f7a4 52 = .ok (.if_icmp .le 10, 3) := by decide +kernel
theorem dJ6_numberOfTrailingZeros_0f7a4_55 : decode cJ6_numberOfTrailingZeros_0f7a4 55 = .ok (.iinc 1 4, 3) := by decide +kernel
theorem dJ6_numberOfTrailingZeros_0f7a4_58 : decode cJ6_numberOfTrailingZeros_0f7a4 58 = .ok (.iload_n 0, 1) := by decide +kernel
theorem dJ6_numberOfTrailingZeros_0f7a4_59 : decode cJ6_numberOfTrailingZeros_0f7a4 59 = .ok (.iconst 4, 1) := by decide +kernel
theorem dJ6_numberOfTrailingZeros_0f7a4_60 : decode cJ6_numberOfTrailingZeros_0f7a4 60 = .ok (.iushr, 1) := by decide +kernel
theorem dJ6_numberOfTrailingZeros_0f7a4_61 : decode cJ6_numberOfTrailingZeros_0f7a4 61 = .ok (.istore_n 0, 1) := by decide +kernel
theorem dJ6_numberOfTrailingZeros_0f7a4_62 : decode cJ6_numberOfTrailingZeros_0f7a4 62 = .ok (.iload_n 0, 1) := by decide +kernel
theorem dJ6_numberOfTrailingZeros_0f7a4_63 : decode cJ6_numberOfTrailingZeros_0f7a4 63 = .ok (.iconst 4, 1) := by decide +kernel
theorem dJ6_numberOfTrailingZeros_0f7a4_64 : decode cJ6_numberOfTrailingZeros_0f7a4 64 = .ok (.if_icmp .le 10, 3) := by decide +kernel
theorem dJ6_numberOfTrailingZeros_0f7a4_67 : decode cJ6_numberOfTrailingZeros_0f7a4 67 = .ok (.iinc 1 2, 3) := by decide +kernel
theorem dJ6_numberOfTrailingZeros_0f7a4_70 : decode cJ6_numberOfTrailingZeros_0f7a4 70 = .ok (.iload_n 0, 1) := by decide +kernel
theorem dJ6_numberOfTrailingZeros_0f7a4_71 : decode cJ6_numberOfTrailingZeros_0f7a4 71 = .ok (.iconst 2, 1) := by decide +kernel
theorem dJ6_numberOfTrailingZeros_0f7a4_72 : decode cJ6_numberOfTrailingZeros_0f7a4 72 = .ok (.iushr, 1) := by decide +kernel
theorem dJ6_numberOfTrailingZeros_0f7a4_73 : decode cJ6_numberOfTrailingZeros_0f7a4 73 = .ok (.istore_n 0, 1) := by decide +kernel
theorem dJ6_numberOfTrailingZeros_0f7a4_74 : decode cJ6_numberOfTrailingZeros_0f7a4 74 = .ok (.iload_n 1, 1) := by decide +kernel
theorem dJ6_numberOfTrailingZeros_0f7a4_75 : decode cJ6_numberOfTrailingZeros_0f7a4 75 = .ok (.iload_n 0, 1) := by decide +kernel
theorem dJ6_numberOfTrailingZeros_0f7a4_76 : decode cJ6_numberOfTrailingZeros_0f7a4 76 = .ok (.iconst 1, 1) := by decide +kernel
theorem dJ6_numberOfTrailingZeros_0f7a4_77 : decode cJ6_numberOfTrailingZeros_0f7a4 77 = .ok (.iushr, 1) := by decide +kernel
theorem dJ6_numberOfTrailingZeros_0f7a4_78 : decode cJ6_numberOfTrailingZeros_0f7a4 78 = .ok (.iadd, 1) := by decide +kernel
theorem dJ6_numberOfTrailingZeros_0f7a4_79 : decode cJ6_numberOfTrailingZeros_0f7a4 79 = .ok (.ireturn, 1) := by decide +kernel
theorem dJ6_bitCount_0f7a4_0 : decode cJ6_bitCount_0f7a4 0 = .ok (.iload_n 0, 1) := by decide +kernel
theorem dJ6_bitCount_0f7a4_1 : decode cJ6_bitCount_0f7a4 1 = .ok (.iload_n 0, 1) := by decide +kernel
theorem dJ6_bitCount_0f7a4_2 : decode cJ6_bitCount_0f7a4 2 = .ok (.iconst 1, 1) := by decide +kernel
theorem dJ6_bitCount_0f7a4_3 : decode cJ6_bitCount_0f7a4 3 = .ok (.iushr, 1) := by decide +kernel
theorem dJ6_bitCount_0f7a4_4 : decode cJ6_bitCount_0f7a4 4 = .ok (.ldc_w 265, 3) := by decide +kernel
theorem dJ6_bitCount_0f7a4_7 : decode cJ6_bitCount_0f7a4 7 = .ok (.iand, 1) := by decide +kernel
theorem dJ6_bitCount_0f7a4_8 : decode cJ6_bitCount_0f7a4 8 = .ok (.isub, 1) := by decide +kernel
theorem dJ6_bitCount_0f7a4_9 : decode cJ6_bitCount_0f7a4 9 = .ok (.istore_n 0, 1) := by decide +kernel
theorem dJ6_bitCount_0f7a4_10 : decode cJ6_bitCount_0f7a4 10 = .ok (.iload_n 0, 1) := by decide +kernel
theorem dJ6_bitCount_0f7a4_11 : decode cJ6_bitCount_0f7a4 11 = .ok (.ldc_w 266, 3) := by decide +kernel
theorem dJ6_bitCount_0f7a4_14 : decode cJ6_bitCount_0f7a4 14 = .ok (.iand, 1) := by decide +kernel
theorem dJ6_bitCount_0f7a4_15 : decode cJ6_bitCount_0f7a4 15 = .ok (.iload_n 0, 1) := by decide +kernel
theorem dJ6_bitCount_0f7a4_16 : decode cJ6_bitCount_0f7a4 16 = .ok (.iconst 2, 1) := by decide +kernel
theorem dJ6_bitCount_0f7a4_17 : decode cJ6_bitCount_0f7a4 17 = .ok (.iushr, 1) := by decide +kernel
theorem dJ6_bitCount_0f7a4_18 : decode cJ6_bitCount_0f7a4 18 = .ok (.ldc_w 266, 3) := by decide +kernel
theorem dJ6_bitCount_0f7a4_21 : decode cJ6_bitCount_0f7a4 21 = .ok (.iand, 1) := by decide +kernel
theorem dJ6_bitCount_0f7a4_22 : decode cJ6_bitCount_0f7a4 22 = .ok (.iadd, 1) := by decide +kernel
theorem dJ6_bitCount_0f7a4_23 : decode cJ6_bitCount_0f7a4 23 = .ok (.istore_n 0, 1) := by decide +kernel
theorem dJ6_bitCount_0f7a4_24 : decode cJ6_bitCount_0f7a4 24 = .ok (.iload_n 0, 1) := by decide +kernel
theorem dJ6_bitCount_0f7a4_25 : decode cJ6_bitCount_0f7a4 25 = .ok (.iload_n 0, 1) := by decide +kernel
theorem dJ6_bitCount_0f7a4_26 : decode cJ6_bitCount_0f7a4 26 = .ok (.iconst 4, 1) := by decide +kernel
theorem dJ6_bitCount_0f7a4_27 : decode cJ6_bitCount_0f7a4 27 = .ok (.iushr, 1) := by decide +kernel
theorem dJ6_bitCount_0f7a4_28 : decode cJ6_bitCount_0f7a4 28 = .ok (.iadd, 1) := by decide +kernel
theorem dJ6_bitCount_0f7a4_29 : decode cJ6_bitCount_0f7a4 29 = .ok (.ldc_w 267, 3) := by decide +kernel
theorem dJ6_bitCount_0f7a4_32 : decode cJ6_bitCount_0f7a4 32 = .ok (.iand, 1) := by decide +kernel
theorem dJ6_bitCount_0f7a4_33 : decode cJ6_bitCount_0f7a4 33 = .ok (.istore_n 0, 1) := by decide +kernel
theorem dJ6_bitCount_0f7a4_34 : decode cJ6_bitCount_0f7a4 34 = .ok (.iload_n 0, 1) := by decide +kernel
theorem dJ6_bitCount_0f7a4_35 : decode cJ6_bitCount_0f7a4 35 = .ok (.iload_n 0, 1) := by decide +kernel
theorem dJ6_bitCount_0f7a4_36 : decode cJ6_bitCount_0f7a4 36 = .ok (.bipush 8, 2) := by decide +kernel
theorem dJ6_bitCount_0f7a4_38 : decode cJ6_bitCount_0f7a4 38 = .ok (.iushr, 1) := by decide +kernel
theorem dJ6_bitCount_0f7a4_39 : decode cJ6_bitCount_0f7a4 39 = .ok (.iadd, 1) := by decide +kernel
theorem dJ6_bitCount_0f7a4_40 : decode cJ6_bitCount_0f7a4 40 = .ok (.istore_n 0, 1) := by decide +kernel
theorem dJ6_bitCount_0f7a4_41 : decode cJ6_bitCount_0f7a4 41 = .ok (.iload_n 0, 1) := by decide +kernel
theorem dJ6_bitCount_0f7a4_42 : decode cJ6_bitCount_0f7a4 42 = .ok (.iload_n 0, 1) := by decide +kernel
theorem dJ6_bitCount_0f7a4_43 : decode cJ6_bitCount_0f7a4 43 = .ok (.bipush 16, 2) := by decide +kernel
theorem dJ6_bitCount_0f7a4_45 : decode cJ6_bitCount_0f7a4 45 = .ok (.iushr, 1) := by decide +kernel
theorem dJ6_bitCount_0f7a4_46 : decode cJ6_bitCount_0f7a4 46 = .ok (.iadd, 1) := by decide +kernel
theorem dJ6_bitCount_0f7a4_47 : decode cJ6_bitCount_0f7a4 47 = .ok (.istore_n 0, 1) := by decide +kernel
theorem dJ6_bitCount_0f7a4_48 : decode cJ6_bitCount_0f7a4 48 = .ok (.iload_n 0, 1) := by decide +kernel
theorem dJ6_bitCount_0f7a4_49 : decode cJ6_bitCount_0f7a4 49 = .ok (.bipush 63, 2) := by decide +kernel
theorem dJ6_bitCount_0f7a4_51 : decode cJ6_bitCount_0f7a4 51 = .ok (.iand, 1) := by decide +kernel
theorem dJ6_bitCount_0f7a4_52 : decode cJ6_bitCount_0f7a4 52 = .ok (.ireturn, 1) := by decide +kernel
theorem dJ9_abs_0f7a4_0 : decode cJ9_abs_0f7a4 0 = .ok (.iload_n 0, 1) := by decide +kernel
theorem dJ9_abs_0f7a4_1 : decode cJ9_abs_0f7a4 1 = .ok (.ifCond .ge 8, 3) := by decide +kernel
theorem dJ9_abs_0f7a4_4 : decode cJ9_abs_0f7a4 4 = .ok (.iload_n 0, 1) := by decide +kernel
theorem dJ9_abs_0f7a4_5 : decode cJ9_abs_0f7a4 5 = .ok (.ineg, 1) := by decide +kernel
theorem dJ9_abs_0f7a4_6 : decode cJ9_abs_0f7a4 6 = .ok (.goto 4, 3) := by decide +kernel
theorem dJ9_abs_0f7a4_9 : decode cJ9_abs_0f7a4 9 = .ok (.iload_n 0, 1) := by decide +kernel
theorem dJ9_abs_0f7a4_10 : decode cJ9_abs_0f7a4 10 = .ok (.ireturn, 1) := by decide +kernel
theorem dJ9_max_7cf53_0 : decode cJ9_max_7cf53 0 = .ok (.iload_n 0, 1) := by decide +kernel
theorem dJ9_max_7cf53_1 : decode cJ9_max_7cf53 1 = .ok (.iload_n 1, 1) := by decide +kernel
theorem dJ9_max_7cf53_2 : decode cJ9_max_7cf53 2 = .ok (.if_icmp .lt 7, 3) := by decide +kernel
theorem dJ9_max_7cf53_5 : decode cJ9_max_7cf53 5 = .ok (.iload_n 0, 1) := by decide +kernel
theorem dJ9_max_7cf53_6 : decode cJ9_max_7cf53 6 = .ok (.goto 4, 3) := by decide +kernel
theorem dJ9_max_7cf53_9 : decode cJ9_max_7cf53 9 = .ok (.iload_n 1, 1) := by decide +kernel
theorem dJ9_max_7cf53_10 : decode cJ9_max_7cf53 10 = .ok (.ireturn, 1) := by decide +kernel
theorem dJ9_max_f86c9_0 : decode cJ9_max_f86c9 0 = .ok (.lload_n 0, 1) := by decide +kernel
theorem dJ9_max_f86c9_1 : decode cJ9_max_f86c9 1 = .ok (.lload_n 2, 1) := by decide +kernel
theorem dJ9_max_f86c9_2 : decode cJ9_max_f86c9 2 = .ok (.lcmp, 1) := by decide +kernel
theorem dJ9_max_f86c9_3 : decode cJ9_max_f86c9 3 = .ok (.ifCond .lt 7, 3) := by decide +kernel
theorem dJ9_max_f86c9_6 : decode cJ9_max_f86c9 6 = .ok (.lload_n 0, 1) := by decide +kernel
theorem dJ9_max_f86c9_7 : decode cJ9_max_f86c9 7 = .ok (.goto 4, 3) := by decide +kernel
theorem dJ9_max_f86c9_10 : decode cJ9_max_f86c9 10 = .ok (.lload_n 2, 1) := by decide +kernel
theorem dJ9_max_f86c9_11 : decode cJ9_max_f86c9 11 = .ok (.lreturn, 1) := by decide +kernel
theorem dJ9_min_7cf53_0 : decode cJ9_min_7cf53 0 = .ok (.iload_n 0, 1) := by decide +kernel
theorem dJ9_min_7cf53_1 : decode cJ9_min_7cf53 1 = .ok (.iload_n 1, 1) := by decide +kernel
theorem dJ9_min_7cf53_2 : decode cJ9_min_7cf53 2 = .ok (.if_icmp .gt 7, 3) := by decide +kernel
theorem dJ9_min_7cf53_5 : decode cJ9_min_7cf53 5 = .ok (.iload_n 0, 1) := by decide +kernel
theorem dJ9_min_7cf53_6 : decode cJ9_min_7cf53 6 = .ok (.goto 4, 3) := by decide +kernel
theorem dJ9_min_7cf53_9 : decode cJ9_min_7cf53 9 = .ok (.iload_n 1, 1) := by decide +kernel
theorem dJ9_min_7cf53_10 : decode cJ9_min_7cf53 10 = .ok (.ireturn, 1) := by decide +kernel
theorem dJ9_min_f86c9_0 : decode cJ9_min_f86c9 0 = .ok (.lload_n 0, 1) := by decide +kernel
theorem dJ9_min_f86c9_1 : decode cJ9_min_f86c9 1 = .ok (.lload_n 2, 1) := by decide +kernel
theorem dJ9_min_f86c9_2 : decode cJ9_min_f86c9 2 = .ok (.lcmp, 1) := by decide +kernel
theorem dJ9_min_f86c9_3 : decode cJ9_min_f86c9 3 = .ok (.ifCond .gt 7, 3) := by decide +kernel
theorem dJ9_min_f86c9_6 : decode cJ9_min_f86c9 6 = .ok (.lload_n 0, 1) := by decide +kernel
theorem dJ9_min_f86c9_7 : decode cJ9_min_f86c9 7 = .ok (.goto 4, 3) := by decide +kernel
theorem dJ9_min_f86c9_10 : decode cJ9_min_f86c9 10 = .ok (.lload_n 2, 1) := by decide +kernel
theorem dJ9_min_f86c9_11 : decode cJ9_min_f86c9 11 = .ok (.lreturn, 1) := by decide +kernel
theorem dJ7_fill_53178_0 : decode cJ7_fill_53178 0 = .ok (.iconst 0, 1) := by decide +kernel
theorem dJ7_fill_53178_1 : decode cJ7_fill_53178 1 = .ok (.istore_n 2, 1) := by decide +kernel
theorem dJ7_fill_53178_2 : decode cJ7_fill_53178 2 = .ok (.aload_n 0, 1) := by decide +kernel
theorem dJ7_fill_53178_3 : decode cJ7_fill_53178 3 = .ok (.arraylength, 1) := by decide +kernel
theorem dJ7_fill_53178_4 : decode cJ7_fill_53178 4 = .ok (.istore_n 3, 1) := by decide +kernel
theorem dJ7_fill_53178_5 : decode cJ7_fill_53178 5 = .ok (.iload_n 2, 1) := by decide +kernel
theorem dJ7_fill_53178_6 : decode cJ7_fill_53178 6 = .ok (.iload_n 3, 1) := by decide +kernel
theorem dJ7_fill_53178_7 : decode cJ7_fill_53178 7 = .ok (.if_icmp .ge 13, 3) := by decide +kernel
theorem dJ7_fill_53178_10 : decode cJ7_fill_53178 10 = .ok (.aload_n 0, 1) := by decide +kernel
theorem dJ7_fill_53178_11 : decode cJ7_fill_53178 11 = .ok (.iload_n 2, 1) := by decide +kernel
theorem dJ7_fill_53178_12 : decode cJ7_fill_53178 12 = .ok (.iload_n 1, 1) := by decide +kernel
theorem dJ7_fill_53178_13 : decode cJ7_fill_53178 13 = .ok (.iastore, 1) := by decide +kernel
theorem dJ7_fill_53178_14 : decode cJ7_fill_53178 14 = .ok (.iinc 2 1, 3) := by decide +kernel
theorem dJ7_fill_53178_17 : decode cJ7_fill_53178 17 = .ok (.goto (-12), 3) := by decide +kernel
theorem dJ7_fill_53178_20 : decode cJ7_fill_53178 20 = .ok (.return_, 1) := by decide +kernel
