theorem dX11_init_0 : decode cX11_init 0 = .ok (.aload_n 0, 1) := by decide +kernel
theorem dX11_init_1 : decode cX11_init 1 = .ok (.invokespecial 1, 3) := by decide +kernel
theorem dX11_init_4 : decode cX11_init 4 = .ok (.aload_n 0, 1) := by decide +kernel
theorem dX11_init_5 : decode cX11_init 5 = .ok (.new 7, 3) := by decide +kernel
theorem dX11_init_8 : decode cX11_init 8 = .ok (.dup, 1) := by decide +kernel
theorem dX11_init_9 : decode cX11_init 9 = .ok (.invokespecial 9, 3) := by decide +kernel
theorem dX11_init_12 : decode cX11_init 12 = .ok (.putfield 10, 3) := by decide +kernel
theorem dX11_init_15 : decode cX11_init 15 = .ok (.aload_n 0, 1) := by decide +kernel
theorem dX11_init_16 : decode cX11_init 16 = .ok (.new 16, 3) := by decide +kernel
theorem dX11_init_19 : decode cX11_init 19 = .ok (.dup, 1) := by decide +kernel
theorem dX11_init_20 : decode cX11_init 20 = .ok (.aload_n 0, 1) := by decide +kernel
theorem dX11_init_21 : decode cX11_init 21 = .ok (.getfield 10, 3) := by decide +kernel
theorem dX11_init_24 : decode cX11_init 24 = .ok (.invokespecial 18, 3) := by decide +kernel
theorem dX11_init_27 : decode cX11_init 27 = .ok (.putfield 21, 3) := by decide +kernel
theorem dX11_init_30 : decode cX11_init 30 = .ok (.aload_n 0, 1) := by decide +kernel
theorem dX11_init_31 : decode cX11_init 31 = .ok (.new 25, 3) := by decide +kernel
theorem dX11_init_34 : decode cX11_init 34 = .ok (.dup, 1) := by decide +kernel
theorem dX11_init_35 : decode cX11_init 35 = .ok (.aload_n 0, 1) := by decide +kernel
theorem dX11_init_36 : decode cX11_init 36 = .ok (.getfield 10, 3) := by decide +kernel
theorem dX11_init_39 : decode cX11_init 39 = .ok (.invokespecial 27, 3) := by decide +kernel
theorem dX11_init_42 : decode cX11_init 42 = .ok (.putfield 28, 3) := by decide +kernel
theorem dX11_init_45 : decode cX11_init 45 = .ok (.aload_n 0, 1) := by decide +kernel
theorem dX11_init_46 : decode cX11_init 46 = .ok (.new 32, 3) := by decide +kernel
theorem dX11_init_49 : decode cX11_init 49 = .ok (.dup, 1) := by decide +kernel
theorem dX11_init_50 : decode cX11_init 50 = .ok (.invokespecial 34, 3) := by decide +kernel
theorem dX11_init_53 : decode cX11_init 53 = .ok (.putfield 35, 3) := by decide +kernel
theorem dX11_init_56 : decode cX11_init 56 = .ok (.aload_n 0, 1) := by decide +kernel
theorem dX11_init_57 : decode cX11_init 57 = .ok (.new 39, 3) := by decide +kernel
theorem dX11_init_60 : decode cX11_init 60 = .ok (.dup, 1) := by decide +kernel
theorem dX11_init_61 : decode cX11_init 61 = .ok (.invokespecial 41, 3) := by decide +kernel
theorem dX11_init_64 : decode cX11_init 64 = .ok (.putfield 42, 3) := by decide +kernel
theorem dX11_init_67 : decode cX11_init 67 = .ok (.aload_n 0, 1) := by decide +kernel
theorem dX11_init_68 : decode cX11_init 68 = .ok (.new 46, 3) := by decide +kernel
theorem dX11_init_71 : decode cX11_init 71 = .ok (.dup, 1) := by decide +kernel
theorem dX11_init_72 : decode cX11_init 72 = .ok (.aload_n 0, 1) := by decide +kernel
theorem dX11_init_73 : decode cX11_init 73 = .ok (.getfield 42, 3) := by decide +kernel
theorem dX11_init_76 : decode cX11_init 76 = .ok (.aload_n 0, 1) := by decide +kernel
theorem dX11_init_77 : decode cX11_init 77 = .ok (.getfield 35, 3) := by decide +kernel
theorem dX11_init_80 : decode cX11_init 80 = .ok (.invokespecial 48, 3) := by decide +kernel
theorem dX11_init_83 : decode cX11_init 83 = .ok (.putfield 51, 3) := by decide +kernel
theorem dX11_init_86 : decode cX11_init 86 = .ok (.aload_n 0, 1) := by decide +kernel
theorem dX11_init_87 : decode cX11_init 87 = .ok (.new 55, 3) := by decide +kernel
theorem dX11_init_90 : decode cX11_init 90 = .ok (.dup, 1) := by decide +kernel
theorem dX11_init_91 : decode cX11_init 91 = .ok (.invokespecial 57, 3) := by decide +kernel
theorem dX11_init_94 : decode cX11_init 94 = .ok (.putfield 58, 3) := by decide +kernel
theorem dX11_init_97 : decode cX11_init 97 = .ok (.aload_n 0, 1) := by decide +kernel
theorem dX11_init_98 : decode cX11_init 98 = .ok (.new 62, 3) := by decide +kernel
theorem dX11_init_101 : decode cX11_init 101 = .ok (.dup, 1) := by decide +kernel
theorem dX11_init_102 : decode cX11_init 102 = .ok (.invokespecial 64, 3) := by decide +kernel
theorem dX11_init_105 : decode cX11_init 105 = .ok (.putfield 65, 3) := by decide +kernel
theorem dX11_init_108 : decode cX11_init 108 = .ok (.aload_n 0, 1) := by decide +kernel
theorem dX11_init_109 : decode cX11_init 109 = .ok (.new 69, 3) := by decide +kernel
theorem dX11_init_112 : decode cX11_init 112 = .ok (.dup, 1) := by decide +kernel
theorem dX11_init_113 : decode cX11_init 113 = .ok (.invokespecial 71, 3) := by decide +kernel
theorem dX11_init_116 : decode cX11_init 116 = .ok (.putfield 72, 3) := by decide +kernel
theorem dX11_init_119 : decode cX11_init 119 = .ok (.aload_n 0, 1) := by decide +kernel
theorem dX11_init_120 : decode cX11_init 120 = .ok (.new 76, 3) := by decide +kernel
theorem dX11_init_123 : decode cX11_init 123 = .ok (.dup, 1) := by decide +kernel
theorem dX11_init_124 : decode cX11_init 124 = .ok (.aload_n 0, 1) := by decide +kernel
theorem dX11_init_125 : decode cX11_init 125 = .ok (.getfield 42, 3) := by decide +kernel
theorem dX11_init_128 : decode cX11_init 128 = .ok (.invokespecial 78, 3) := by decide +kernel
theorem dX11_init_131 : decode cX11_init 131 = .ok (.putfield 81, 3) := by decide +kernel
theorem dX11_init_134 : decode cX11_init 134 = .ok (.aload_n 0, 1) := by decide +kernel
theorem dX11_init_135 : decode cX11_init 135 = .ok (.new 85, 3) := by decide +kernel
theorem dX11_init_138 : decode cX11_init 138 = .ok (.dup, 1) := by decide +kernel
theorem dX11_init_139 : decode cX11_init 139 = .ok (.invokespecial 87, 3) := by decide +kernel
theorem dX11_init_142 : decode cX11_init 142 = .ok (.putfield 88, 3) := by decide +kernel
theorem dX11_init_145 : decode cX11_init 145 = .ok (.aload_n 0, 1) := by decide +kernel
theorem dX11_init_146 : decode cX11_init 146 = .ok (.bipush 35, 2) := by decide +kernel
theorem dX11_init_148 : decode cX11_init 148 = .ok (.newarray .int, 2) := by decide +kernel
theorem dX11_init_150 : decode cX11_init 150 = .ok (.putfield 92, 3) := by decide +kernel
theorem dX11_init_153 : decode cX11_init 153 = .ok (.aload_n 0, 1) := by decide +kernel
theorem dX11_init_154 : decode cX11_init 154 = .ok (.iconst 5, 1) := by decide +kernel
theorem dX11_init_155 : decode cX11_init 155 = .ok (.newarray .int, 2) := by decide +kernel
theorem dX11_init_157 : decode cX11_init 157 = .ok (.putfield 96, 3) := by decide +kernel
theorem dX11_init_160 : decode cX11_init 160 = .ok (.aload_n 0, 1) := by decide +kernel
theorem dX11_init_161 : decode cX11_init 161 = .ok (.iconst 5, 1) := by decide +kernel
theorem dX11_init_162 : decode cX11_init 162 = .ok (.putfield 99, 3) := by decide +kernel
theorem dX11_init_165 : decode cX11_init 165 = .ok (.aload_n 0, 1) := by decide +kernel
theorem dX11_init_166 : decode cX11_init 166 = .ok (.lconst 1, 1) := by decide +kernel
theorem dX11_init_167 : decode cX11_init 167 = .ok (.putfield 103, 3) := by decide +kernel
theorem dX11_init_170 : decode cX11_init 170 = .ok (.aload_n 0, 1) := by decide +kernel
theorem dX11_init_171 : decode cX11_init 171 = .ok (.lconst 1, 1) := by decide +kernel
theorem dX11_init_172 : decode cX11_init 172 = .ok (.putfield 107, 3) := by decide +kernel
theorem dX11_init_175 : decode cX11_init 175 = .ok (.return_, 1) := by decide +kernel
theorem dX11_feed_0 : decode cX11_feed 0 = .ok (.iload_n 1, 1) := by decide +kernel
theorem dX11_feed_1 : decode cX11_feed 1 = .ok (.invokestatic 110, 3) := by decide +kernel
theorem dX11_feed_4 : decode cX11_feed 4 = .ok (.iload_n 2, 1) := by decide +kernel
theorem dX11_feed_5 : decode cX11_feed 5 = .ok (.invokestatic 110, 3) := by decide +kernel
theorem dX11_feed_8 : decode cX11_feed 8 = .ok (.iadd, 1) := by decide +kernel
theorem dX11_feed_9 : decode cX11_feed 9 = .ok (.iload_n 3, 1) := by decide +kernel
theorem dX11_feed_10 : decode cX11_feed 10 = .ok (.invokestatic 110, 3) := by decide +kernel
theorem dX11_feed_13 : decode cX11_feed 13 = .ok (.iadd, 1) := by decide +kernel
theorem dX11_feed_14 : decode cX11_feed 14 = .ok (.iload 4, 2) := by decide +kernel
theorem dX11_feed_16 : decode cX11_feed 16 = .ok (.invokestatic 110, 3) := by decide +kernel
theorem dX11_feed_19 : decode cX11_feed 19 = .ok (.iadd, 1) := by decide +kernel
theorem dX11_feed_20 : decode cX11_feed 20 = .ok (.iload 5, 2) := by decide +kernel
theorem dX11_feed_22 : decode cX11_feed 22 = .ok (.invokestatic 110, 3) := by decide +kernel
theorem dX11_feed_25 : decode cX11_feed 25 = .ok (.iadd, 1) := by decide +kernel
theorem dX11_feed_26 : decode cX11_feed 26 = .ok (.istore 6, 2) := by decide +kernel
theorem dX11_feed_28 : decode cX11_feed 28 = .ok (.aload_n 0, 1) := by decide +kernel
theorem dX11_feed_29 : decode cX11_feed 29 = .ok (.getfield 10, 3) := by decide +kernel
theorem dX11_feed_32 : decode cX11_feed 32 = .ok (.getfield 114, 3) := by decide +kernel
theorem dX11_feed_35 : decode cX11_feed 35 = .ok (.iload 6, 2) := by decide +kernel
theorem dX11_feed_37 : decode cX11_feed 37 = .ok (.iadd, 1) := by decide +kernel
theorem dX11_feed_38 : decode cX11_feed 38 = .ok (.sipush 240, 3) := by decide +kernel
theorem dX11_feed_41 : decode cX11_feed 41 = .ok (.if_icmp .le 5, 3) := by decide +kernel
theorem dX11_feed_44 : decode cX11_feed 44 = .ok (.iconst (-1), 1) := by decide +kernel
theorem dX11_feed_45 : decode cX11_feed 45 = .ok (.ireturn, 1) := by decide +kernel
theorem dX11_feed_46 : decode cX11_feed 46 = .ok (.aload_n 0, 1) := by decide +kernel
theorem dX11_feed_47 : decode cX11_feed 47 = .ok (.getfield 10, 3) := by decide +kernel
theorem dX11_feed_50 : decode cX11_feed 50 = .ok (.iload_n 1, 1) := by decide +kernel
theorem dX11_feed_51 : decode cX11_feed 51 = .ok (.invokevirtual 117, 3) := by decide +kernel
theorem dX11_feed_54 : decode cX11_feed 54 = .ok (.aload_n 0, 1) := by decide +kernel
theorem dX11_feed_55 : decode cX11_feed 55 = .ok (.getfield 10, 3) := by decide +kernel
theorem dX11_feed_58 : decode cX11_feed 58 = .ok (.iload_n 2, 1) := by decide +kernel
theorem dX11_feed_59 : decode cX11_feed 59 = .ok (.invokevirtual 117, 3) := by decide +kernel
theorem dX11_feed_62 : decode cX11_feed 62 = .ok (.aload_n 0, 1) := by decide +kernel
theorem dX11_feed_63 : decode cX11_feed 63 = .ok (.getfield 10, 3) := by decide +kernel
theorem dX11_feed_66 : decode cX11_feed 66 = .ok (.iload_n 3, 1) := by decide +kernel
theorem dX11_feed_67 : decode cX11_feed 67 = .ok (.invokevirtual 117, 3) := by decide +kernel
theorem dX11_feed_70 : decode cX11_feed 70 = .ok (.aload_n 0, 1) := by decide +kernel
theorem dX11_feed_71 : decode cX11_feed 71 = .ok (.getfield 10, 3) := by decide +kernel
theorem dX11_feed_74 : decode cX11_feed 74 = .ok (.iload 4, 2) := by decide +kernel
theorem dX11_feed_76 : decode cX11_feed 76 = .ok (.invokevirtual 117, 3) := by decide +kernel
theorem dX11_feed_79 : decode cX11_feed 79 = .ok (.aload_n 0, 1) := by decide +kernel
theorem dX11_feed_80 : decode cX11_feed 80 = .ok (.getfield 10, 3) := by decide +kernel
theorem dX11_feed_83 : decode cX11_feed 83 = .ok (.iload 5, 2) := by decide +kernel
theorem dX11_feed_85 : decode cX11_feed 85 = .ok (.invokevirtual 117, 3) := by decide +kernel
theorem dX11_feed_88 : decode cX11_feed 88 = .ok (.aload_n 0, 1) := by decide +kernel
theorem dX11_feed_89 : decode cX11_feed 89 = .ok (.getfield 10, 3) := by decide +kernel
theorem dX11_feed_92 : decode cX11_feed 92 = .ok (.getfield 114, 3) := by decide +kernel
theorem dX11_feed_95 : decode cX11_feed 95 = .ok (.ireturn, 1) := by decide +kernel
theorem dX11_end_0 : decode cX11_end 0 = .ok (.iload_n 1, 1) := by decide +kernel
theorem dX11_end_1 : decode cX11_end 1 = .ok (.ifCond .lt 14, 3) := by decide +kernel
theorem dX11_end_4 : decode cX11_end 4 = .ok (.iload_n 1, 1) := by decide +kernel
theorem dX11_end_5 : decode cX11_end 5 = .ok (.aload_n 0, 1) := by decide +kernel
theorem dX11_end_6 : decode cX11_end 6 = .ok (.getfield 10, 3) := by decide +kernel
theorem dX11_end_9 : decode cX11_end 9 = .ok (.getfield 114, 3) := by decide +kernel
theorem dX11_end_12 : decode cX11_end 12 = .ok (.if_icmp .le 5, 3) := by decide +kernel
theorem dX11_end_15 : decode cX11_end 15 = .ok (.iconst 0, 1) := by decide +kernel
theorem dX11_end_16 : decode cX11_end 16 = .ok (.ireturn, 1) := by decide +kernel
theorem dX11_end_17 : decode cX11_end 17 = .ok (.aload_n 0, 1) := by decide +kernel
theorem dX11_end_18 : decode cX11_end 18 = .ok (.getfield 10, 3) := by decide +kernel
theorem dX11_end_21 : decode cX11_end 21 = .ok (.iload_n 1, 1) := by decide +kernel
theorem dX11_end_22 : decode cX11_end 22 = .ok (.putfield 114, 3) := by decide +kernel
theorem dX11_end_25 : decode cX11_end 25 = .ok (.iconst 1, 1) := by decide +kernel
theorem dX11_end_26 : decode cX11_end 26 = .ok (.ireturn, 1) := by decide +kernel
theorem dX11_fault_0 : decode cX11_fault 0 = .ok (.iload_n 1, 1) := by decide +kernel
theorem dX11_fault_1 : decode cX11_fault 1 = .ok (.invokestatic 121, 3) := by decide +kernel
theorem dX11_fault_4 : decode cX11_fault 4 = .ok (.ifCond .ne 6, 3) := by decide +kernel
theorem dX11_fault_7 : decode cX11_fault 7 = .ok (.bipush (-2), 2) := by decide +kernel
theorem dX11_fault_9 : decode cX11_fault 9 = .ok (.ireturn, 1) := by decide +kernel
theorem dX11_fault_10 : decode cX11_fault 10 = .ok (.aload_n 0, 1) := by decide +kernel
theorem dX11_fault_11 : decode cX11_fault 11 = .ok (.iload_n 1, 1) := by decide +kernel
theorem dX11_fault_12 : decode cX11_fault 12 = .ok (.invokevirtual 125, 3) := by decide +kernel
theorem dX11_fault_15 : decode cX11_fault 15 = .ok (.ifCond .eq 7, 3) := by decide +kernel
theorem dX11_fault_18 : decode cX11_fault 18 = .ok (.iconst (-1), 1) := by decide +kernel
theorem dX11_fault_19 : decode cX11_fault 19 = .ok (.goto 10, 3) := by decide +kernel
theorem dX11_fault_22 : decode cX11_fault 22 = .ok (.aload_n 0, 1) := by decide +kernel
theorem dX11_fault_23 : decode cX11_fault 23 = .ok (.getfield 10, 3) := by decide +kernel
theorem dX11_fault_26 : decode cX11_fault 26 = .ok (.getfield 128, 3) := by decide +kernel
theorem dX11_fault_29 : decode cX11_fault 29 = .ok (.ireturn, 1) := by decide +kernel
theorem dX11_text_0 : decode cX11_text 0 = .ok (.iload_n 1, 1) := by decide +kernel
theorem dX11_text_1 : decode cX11_text 1 = .ok (.invokestatic 121, 3) := by decide +kernel
theorem dX11_text_4 : decode cX11_text 4 = .ok (.ifCond .eq 27, 3) := by decide +kernel
theorem dX11_text_7 : decode cX11_text 7 = .ok (.iload_n 1, 1) := by decide +kernel
theorem dX11_text_8 : decode cX11_text 8 = .ok (.iconst 1, 1) := by decide +kernel
theorem dX11_text_9 : decode cX11_text 9 = .ok (.if_icmp .ne 14, 3) := by decide +kernel
theorem dX11_text_12 : decode cX11_text 12 = .ok (.aload_n 0, 1) := by decide +kernel
theorem dX11_text_13 : decode cX11_text 13 = .ok (.getfield 35, 3) := by decide +kernel
theorem dX11_text_16 : decode cX11_text 16 = .ok (.getfield 131, 3) := by decide +kernel
theorem dX11_text_19 : decode cX11_text 19 = .ok (.iconst 4, 1) := by decide +kernel
theorem dX11_text_20 : decode cX11_text 20 = .ok (.if_icmp .ge 11, 3) := by decide +kernel
theorem dX11_text_23 : decode cX11_text 23 = .ok (.aload_n 0, 1) := by decide +kernel
theorem dX11_text_24 : decode cX11_text 24 = .ok (.iload_n 1, 1) := by decide +kernel
theorem dX11_text_25 : decode cX11_text 25 = .ok (.invokevirtual 125, 3) := by decide +kernel
theorem dX11_text_28 : decode cX11_text 28 = .ok (.ifCond .ne 5, 3) := by decide +kernel
theorem dX11_text_31 : decode cX11_text 31 = .ok (.iconst (-1), 1) := by decide +kernel
theorem dX11_text_32 : decode cX11_text 32 = .ok (.ireturn, 1) := by decide +kernel
theorem dX11_text_33 : decode cX11_text 33 = .ok (.aload_n 0, 1) := by decide +kernel
theorem dX11_text_34 : decode cX11_text 34 = .ok (.getfield 10, 3) := by decide +kernel
theorem dX11_text_37 : decode cX11_text 37 = .ok (.iconst 0, 1) := by decide +kernel
theorem dX11_text_38 : decode cX11_text 38 = .ok (.putfield 114, 3) := by decide +kernel
theorem dX11_text_41 : decode cX11_text 41 = .ok (.iload_n 1, 1) := by decide +kernel
theorem dX11_text_42 : decode cX11_text 42 = .ok (.iconst 1, 1) := by decide +kernel
theorem dX11_text_43 : decode cX11_text 43 = .ok (.if_icmp .ne 15, 3) := by decide +kernel
theorem dX11_text_46 : decode cX11_text 46 = .ok (.aload_n 0, 1) := by decide +kernel
theorem dX11_text_47 : decode cX11_text 47 = .ok (.getfield 35, 3) := by decide +kernel
theorem dX11_text_50 : decode cX11_text 50 = .ok (.aload_n 0, 1) := by decide +kernel
theorem dX11_text_51 : decode cX11_text 51 = .ok (.getfield 28, 3) := by decide +kernel
theorem dX11_text_54 : decode cX11_text 54 = .ok (.invokevirtual 134, 3) := by decide +kernel
theorem dX11_text_57 : decode cX11_text 57 = .ok (.ireturn, 1) := by decide +kernel
theorem dX11_text_58 : decode cX11_text 58 = .ok (.aload_n 0, 1) := by decide +kernel
theorem dX11_text_59 : decode cX11_text 59 = .ok (.getfield 42, 3) := by decide +kernel
theorem dX11_text_62 : decode cX11_text 62 = .ok (.aload_n 0, 1) := by decide +kernel
theorem dX11_text_63 : decode cX11_text 63 = .ok (.getfield 21, 3) := by decide +kernel
theorem dX11_text_66 : decode cX11_text 66 = .ok (.invokevirtual 138, 3) := by decide +kernel
theorem dX11_text_69 : decode cX11_text 69 = .ok (.aload_n 0, 1) := by decide +kernel
theorem dX11_text_70 : decode cX11_text 70 = .ok (.getfield 58, 3) := by decide +kernel
theorem dX11_text_73 : decode cX11_text 73 = .ok (.invokevirtual 142, 3) := by decide +kernel
theorem dX11_text_76 : decode cX11_text 76 = .ok (.aload_n 0, 1) := by decide +kernel
theorem dX11_text_77 : decode cX11_text 77 = .ok (.getfield 65, 3) := by decide +kernel
theorem dX11_text_80 : decode cX11_text 80 = .ok (.invokevirtual 145, 3) := by decide +kernel
theorem dX11_text_83 : decode cX11_text 83 = .ok (.aload_n 0, 1) := by decide +kernel
theorem dX11_text_84 : decode cX11_text 84 = .ok (.getfield 72, 3) := by decide +kernel
theorem dX11_text_87 : decode cX11_text 87 = .ok (.iconst 0, 1) := by decide +kernel
theorem dX11_text_88 : decode cX11_text 88 = .ok (.putfield 146, 3) := by decide +kernel
theorem dX11_text_91 : decode cX11_text 91 = .ok (.aload_n 0, 1) := by decide +kernel
theorem dX11_text_92 : decode cX11_text 92 = .ok (.iconst 0, 1) := by decide +kernel
theorem dX11_text_93 : decode cX11_text 93 = .ok (.putfield 147, 3) := by decide +kernel
theorem dX11_text_96 : decode cX11_text 96 = .ok (.aload_n 0, 1) := by decide +kernel
theorem dX11_text_97 : decode cX11_text 97 = .ok (.iconst 0, 1) := by decide +kernel
theorem dX11_text_98 : decode cX11_text 98 = .ok (.putfield 151, 3) := by decide +kernel
theorem dX11_text_101 : decode cX11_text 101 = .ok (.aload_n 0, 1) := by decide +kernel
theorem dX11_text_102 : decode cX11_text 102 = .ok (.lconst 1, 1) := by decide +kernel
theorem dX11_text_103 : decode cX11_text 103 = .ok (.putfield 103, 3) := by decide +kernel
theorem dX11_text_106 : decode cX11_text 106 = .ok (.aload_n 0, 1) := by decide +kernel
theorem dX11_text_107 : decode cX11_text 107 = .ok (.lconst 1, 1) := by decide +kernel
theorem dX11_text_108 : decode cX11_text 108 = .ok (.putfield 107, 3) := by decide +kernel
theorem dX11_text_111 : decode cX11_text 111 = .ok (.aload_n 0, 1) := by decide +kernel
theorem dX11_text_112 : decode cX11_text 112 = .ok (.getfield 42, 3) := by decide +kernel
theorem dX11_text_115 : decode cX11_text 115 = .ok (.getfield 154, 3) := by decide +kernel
theorem dX11_text_118 : decode cX11_text 118 = .ok (.ireturn, 1) := by decide +kernel
theorem dX11_law_0 : decode cX11_law 0 = .ok (.iload_n 1, 1) := by decide +kernel
theorem dX11_law_1 : decode cX11_law 1 = .ok (.iconst (-1), 1) := by decide +kernel
theorem dX11_law_2 : decode cX11_law 2 = .ok (.if_icmp .lt 14, 3) := by decide +kernel
theorem dX11_law_5 : decode cX11_law 5 = .ok (.iload_n 1, 1) := by decide +kernel
theorem dX11_law_6 : decode cX11_law 6 = .ok (.aload_n 0, 1) := by decide +kernel
theorem dX11_law_7 : decode cX11_law 7 = .ok (.getfield 35, 3) := by decide +kernel
theorem dX11_law_10 : decode cX11_law 10 = .ok (.getfield 131, 3) := by decide +kernel
theorem dX11_law_13 : decode cX11_law 13 = .ok (.if_icmp .lt 5, 3) := by decide +kernel
theorem dX11_law_16 : decode cX11_law 16 = .ok (.iconst 0, 1) := by decide +kernel
theorem dX11_law_17 : decode cX11_law 17 = .ok (.ireturn, 1) := by decide +kernel
theorem dX11_law_18 : decode cX11_law 18 = .ok (.aload_n 0, 1) := by decide +kernel
theorem dX11_law_19 : decode cX11_law 19 = .ok (.getfield 35, 3) := by decide +kernel
theorem dX11_law_22 : decode cX11_law 22 = .ok (.iload_n 1, 1) := by decide +kernel
theorem dX11_law_23 : decode cX11_law 23 = .ok (.putfield 157, 3) := by decide +kernel
theorem dX11_law_26 : decode cX11_law 26 = .ok (.iconst 1, 1) := by decide +kernel
theorem dX11_law_27 : decode cX11_law 27 = .ok (.ireturn, 1) := by decide +kernel
theorem dX11_house_0 : decode cX11_house 0 = .ok (.aload_n 0, 1) := by decide +kernel
theorem dX11_house_1 : decode cX11_house 1 = .ok (.iload_n 1, 1) := by decide +kernel
theorem dX11_house_2 : decode cX11_house 2 = .ok (.invokevirtual 160, 3) := by decide +kernel
theorem dX11_house_5 : decode cX11_house 5 = .ok (.ifCond .ne 13, 3) := by decide +kernel
theorem dX11_house_8 : decode cX11_house 8 = .ok (.new 163, 3) := by decide +kernel
theorem dX11_house_11 : decode cX11_house 11 = .ok (.dup, 1) := by decide +kernel
theorem dX11_house_12 : decode cX11_house 12 = .ok (.ldc 165, 2) := by decide +kernel
theorem dX11_house_14 : decode cX11_house 14 = .ok (.invokespecial 167, 3) := by decide +kernel
theorem dX11_house_17 : decode cX11_house 17 = .ok (.athrow, 1) := by decide +kernel
theorem dX11_house_18 : decode cX11_house 18 = .ok (.iload_n 2, 1) := by decide +kernel
theorem dX11_house_19 : decode cX11_house 19 = .ok (.tableswitch 106 0 5 #[37, 47, 57, 67, 77, 87], 37) := by decide +kernel
theorem dX11_house_56 : decode cX11_house 56 = .ok (.aload_n 0, 1) := by decide +kernel
theorem dX11_house_57 : decode cX11_house 57 = .ok (.getfield 42, 3) := by decide +kernel
theorem dX11_house_60 : decode cX11_house 60 = .ok (.getfield 170, 3) := by decide +kernel
theorem dX11_house_63 : decode cX11_house 63 = .ok (.iload_n 1, 1) := by decide +kernel
theorem dX11_house_64 : decode cX11_house 64 = .ok (.iaload, 1) := by decide +kernel
theorem dX11_house_65 : decode cX11_house 65 = .ok (.ireturn, 1) := by decide +kernel
theorem dX11_house_66 : decode cX11_house 66 = .ok (.aload_n 0, 1) := by decide +kernel
theorem dX11_house_67 : decode cX11_house 67 = .ok (.getfield 42, 3) := by decide +kernel
theorem dX11_house_70 : decode cX11_house 70 = .ok (.getfield 173, 3) := by decide +kernel
theorem dX11_house_73 : decode cX11_house 73 = .ok (.iload_n 1, 1) := by decide +kernel
theorem dX11_house_74 : decode cX11_house 74 = .ok (.iaload, 1) := by decide +kernel
theorem dX11_house_75 : decode cX11_house 75 = .ok (.ireturn, 1) := by decide +kernel
theorem dX11_house_76 : decode cX11_house 76 = .ok (.aload_n 0, 1) := by decide +kernel
theorem dX11_house_77 : decode cX11_house 77 = .ok (.getfield 42, 3) := by decide +kernel
theorem dX11_house_80 : decode cX11_house 80 = .ok (.getfield 176, 3) := by decide +kernel
theorem dX11_house_83 : decode cX11_house 83 = .ok (.iload_n 1, 1) := by decide +kernel
theorem dX11_house_84 : decode cX11_house 84 = .ok (.iaload, 1) := by decide +kernel
theorem dX11_house_85 : decode cX11_house 85 = .ok (.ireturn, 1) := by decide +kernel
theorem dX11_house_86 : decode cX11_house 86 = .ok (.aload_n 0, 1) := by decide +kernel
theorem dX11_house_87 : decode cX11_house 87 = .ok (.getfield 42, 3) := by decide +kernel
theorem dX11_house_90 : decode cX11_house 90 = .ok (.getfield 179, 3) := by decide +kernel
theorem dX11_house_93 : decode cX11_house 93 = .ok (.iload_n 1, 1) := by decide +kernel
theorem dX11_house_94 : decode cX11_house 94 = .ok (.iaload, 1) := by decide +kernel
theorem dX11_house_95 : decode cX11_house 95 = .ok (.ireturn, 1) := by decide +kernel
theorem dX11_house_96 : decode cX11_house 96 = .ok (.aload_n 0, 1) := by decide +kernel
theorem dX11_house_97 : decode cX11_house 97 = .ok (.getfield 42, 3) := by decide +kernel
theorem dX11_house_100 : decode cX11_house 100 = .ok (.getfield 182, 3) := by decide +kernel
theorem dX11_house_103 : decode cX11_house 103 = .ok (.iload_n 1, 1) := by decide +kernel
theorem dX11_house_104 : decode cX11_house 104 = .ok (.iaload, 1) := by decide +kernel
theorem dX11_house_105 : decode cX11_house 105 = .ok (.ireturn, 1) := by decide +kernel
theorem dX11_house_106 : decode cX11_house 106 = .ok (.aload_n 0, 1) := by decide +kernel
theorem dX11_house_107 : decode cX11_house 107 = .ok (.getfield 42, 3) := by decide +kernel
theorem dX11_house_110 : decode cX11_house 110 = .ok (.aload_n 0, 1) := by decide +kernel
theorem dX11_house_111 : decode cX11_house 111 = .ok (.getfield 42, 3) := by decide +kernel
theorem dX11_house_114 : decode cX11_house 114 = .ok (.invokevirtual 185, 3) := by decide +kernel
theorem dX11_house_117 : decode cX11_house 117 = .ok (.iload_n 1, 1) := by decide +kernel
theorem dX11_house_118 : decode cX11_house 118 = .ok (.invokevirtual 189, 3) := by decide +kernel
theorem dX11_house_121 : decode cX11_house 121 = .ok (.invokestatic 193, 3) := by decide +kernel
theorem dX11_house_124 : decode cX11_house 124 = .ok (.ireturn, 1) := by decide +kernel
theorem dX11_house_125 : decode cX11_house 125 = .ok (.new 163, 3) := by decide +kernel
theorem dX11_house_128 : decode cX11_house 128 = .ok (.dup, 1) := by decide +kernel
theorem dX11_house_129 : decode cX11_house 129 = .ok (.ldc 198, 2) := by decide +kernel
theorem dX11_house_131 : decode cX11_house 131 = .ok (.invokespecial 167, 3) := by decide +kernel
theorem dX11_house_134 : decode cX11_house 134 = .ok (.athrow, 1) := by decide +kernel
theorem dX11_wire_0 : decode cX11_wire 0 = .ok (.aload_n 0, 1) := by decide +kernel
theorem dX11_wire_1 : decode cX11_wire 1 = .ok (.iload_n 1, 1) := by decide +kernel
theorem dX11_wire_2 : decode cX11_wire 2 = .ok (.invokevirtual 200, 3) := by decide +kernel
theorem dX11_wire_5 : decode cX11_wire 5 = .ok (.ifCond .ne 5, 3) := by decide +kernel
theorem dX11_wire_8 : decode cX11_wire 8 = .ok (.iconst (-1), 1) := by decide +kernel
theorem dX11_wire_9 : decode cX11_wire 9 = .ok (.ireturn, 1) := by decide +kernel
theorem dX11_wire_10 : decode cX11_wire 10 = .ok (.iload_n 2, 1) := by decide +kernel
theorem dX11_wire_11 : decode cX11_wire 11 = .ok (.tableswitch 87 0 4 #[33, 43, 53, 63, 75], 33) := by decide +kernel
theorem dX11_wire_44 : decode cX11_wire 44 = .ok (.aload_n 0, 1) := by decide +kernel
theorem dX11_wire_45 : decode cX11_wire 45 = .ok (.getfield 42, 3) := by decide +kernel
theorem dX11_wire_48 : decode cX11_wire 48 = .ok (.getfield 203, 3) := by decide +kernel
theorem dX11_wire_51 : decode cX11_wire 51 = .ok (.iload_n 1, 1) := by decide +kernel
theorem dX11_wire_52 : decode cX11_wire 52 = .ok (.iaload, 1) := by decide +kernel
theorem dX11_wire_53 : decode cX11_wire 53 = .ok (.ireturn, 1) := by decide +kernel
theorem dX11_wire_54 : decode cX11_wire 54 = .ok (.aload_n 0, 1) := by decide +kernel
theorem dX11_wire_55 : decode cX11_wire 55 = .ok (.getfield 42, 3) := by decide +kernel
theorem dX11_wire_58 : decode cX11_wire 58 = .ok (.getfield 206, 3) := by decide +kernel
theorem dX11_wire_61 : decode cX11_wire 61 = .ok (.iload_n 1, 1) := by decide +kernel
theorem dX11_wire_62 : decode cX11_wire 62 = .ok (.iaload, 1) := by decide +kernel
theorem dX11_wire_63 : decode cX11_wire 63 = .ok (.ireturn, 1) := by decide +kernel
theorem dX11_wire_64 : decode cX11_wire 64 = .ok (.aload_n 0, 1) := by decide +kernel
theorem dX11_wire_65 : decode cX11_wire 65 = .ok (.getfield 42, 3) := by decide +kernel
theorem dX11_wire_68 : decode cX11_wire 68 = .ok (.getfield 209, 3) := by decide +kernel
theorem dX11_wire_71 : decode cX11_wire 71 = .ok (.iload_n 1, 1) := by decide +kernel
theorem dX11_wire_72 : decode cX11_wire 72 = .ok (.iaload, 1) := by decide +kernel
theorem dX11_wire_73 : decode cX11_wire 73 = .ok (.ireturn, 1) := by decide +kernel
theorem dX11_wire_74 : decode cX11_wire 74 = .ok (.aload_n 0, 1) := by decide +kernel
theorem dX11_wire_75 : decode cX11_wire 75 = .ok (.getfield 42, 3) := by decide +kernel
theorem dX11_wire_78 : decode cX11_wire 78 = .ok (.getfield 212, 3) := by decide +kernel
theorem dX11_wire_81 : decode cX11_wire 81 = .ok (.iload_n 1, 1) := by decide +kernel
theorem dX11_wire_82 : decode cX11_wire 82 = .ok (.invokestatic 215, 3) := by decide +kernel
theorem dX11_wire_85 : decode cX11_wire 85 = .ok (.ireturn, 1) := by decide +kernel
theorem dX11_wire_86 : decode cX11_wire 86 = .ok (.aload_n 0, 1) := by decide +kernel
theorem dX11_wire_87 : decode cX11_wire 87 = .ok (.getfield 42, 3) := by decide +kernel
theorem dX11_wire_90 : decode cX11_wire 90 = .ok (.invokevirtual 185, 3) := by decide +kernel
theorem dX11_wire_93 : decode cX11_wire 93 = .ok (.iload_n 1, 1) := by decide +kernel
theorem dX11_wire_94 : decode cX11_wire 94 = .ok (.invokestatic 215, 3) := by decide +kernel
theorem dX11_wire_97 : decode cX11_wire 97 = .ok (.ireturn, 1) := by decide +kernel
theorem dX11_wire_98 : decode cX11_wire 98 = .ok (.iconst (-1), 1) := by decide +kernel
theorem dX11_wire_99 : decode cX11_wire 99 = .ok (.ireturn, 1) := by decide +kernel
theorem dX11_status_0 : decode cX11_status 0 = .ok (.iload_n 1, 1) := by decide +kernel
theorem dX11_status_1 : decode cX11_status 1 = .ok (.ifCond .lt 8, 3) := by decide +kernel
theorem dX11_status_4 : decode cX11_status 4 = .ok (.iload_n 1, 1) := by decide +kernel
theorem dX11_status_5 : decode cX11_status 5 = .ok (.iconst 5, 1) := by decide +kernel
theorem dX11_status_6 : decode cX11_status 6 = .ok (.if_icmp .lt 7, 3) := by decide +kernel
theorem dX11_status_9 : decode cX11_status 9 = .ok (.iconst (-1), 1) := by decide +kernel
theorem dX11_status_10 : decode cX11_status 10 = .ok (.goto 9, 3) := by decide +kernel
theorem dX11_status_13 : decode cX11_status 13 = .ok (.aload_n 0, 1) := by decide +kernel
theorem dX11_status_14 : decode cX11_status 14 = .ok (.getfield 96, 3) := by decide +kernel
theorem dX11_status_17 : decode cX11_status 17 = .ok (.iload_n 1, 1) := by decide +kernel
theorem dX11_status_18 : decode cX11_status 18 = .ok (.iaload, 1) := by decide +kernel
theorem dX11_status_19 : decode cX11_status 19 = .ok (.ireturn, 1) := by decide +kernel
theorem dX11_log_0 : decode cX11_log 0 = .ok (.aload_n 0, 1) := by decide +kernel
theorem dX11_log_1 : decode cX11_log 1 = .ok (.getfield 65, 3) := by decide +kernel
theorem dX11_log_4 : decode cX11_log 4 = .ok (.iload_n 1, 1) := by decide +kernel
theorem dX11_log_5 : decode cX11_log 5 = .ok (.iload_n 2, 1) := by decide +kernel
theorem dX11_log_6 : decode cX11_log 6 = .ok (.invokevirtual 218, 3) := by decide +kernel
theorem dX11_log_9 : decode cX11_log 9 = .ok (.ireturn, 1) := by decide +kernel
theorem dX11_count_0 : decode cX11_count 0 = .ok (.iload_n 1, 1) := by decide +kernel
theorem dX11_count_1 : decode cX11_count 1 = .ok (.tableswitch 186 0 14 #[75, 83, 91, 99, 107, 115, 123, 131, 139, 147, 152, 157, 165, 170, 178], 75) := by decide +kernel
theorem dX11_count_76 : decode cX11_count 76 = .ok (.aload_n 0, 1) := by decide +kernel
theorem dX11_count_77 : decode cX11_count 77 = .ok (.getfield 42, 3) := by decide +kernel
theorem dX11_count_80 : decode cX11_count 80 = .ok (.getfield 154, 3) := by decide +kernel
theorem dX11_count_83 : decode cX11_count 83 = .ok (.ireturn, 1) := by decide +kernel
theorem dX11_count_84 : decode cX11_count 84 = .ok (.aload_n 0, 1) := by decide +kernel
theorem dX11_count_85 : decode cX11_count 85 = .ok (.getfield 42, 3) := by decide +kernel
theorem dX11_count_88 : decode cX11_count 88 = .ok (.getfield 221, 3) := by decide +kernel
theorem dX11_count_91 : decode cX11_count 91 = .ok (.ireturn, 1) := by decide +kernel
theorem dX11_count_92 : decode cX11_count 92 = .ok (.aload_n 0, 1) := by decide +kernel
theorem dX11_count_93 : decode cX11_count 93 = .ok (.getfield 35, 3) := by decide +kernel
theorem dX11_count_96 : decode cX11_count 96 = .ok (.getfield 131, 3) := by decide +kernel
theorem dX11_count_99 : decode cX11_count 99 = .ok (.ireturn, 1) := by decide +kernel
theorem dX11_count_100 : decode cX11_count 100 = .ok (.aload_n 0, 1) := by decide +kernel
theorem dX11_count_101 : decode cX11_count 101 = .ok (.getfield 10, 3) := by decide +kernel
theorem dX11_count_104 : decode cX11_count 104 = .ok (.getfield 114, 3) := by decide +kernel
theorem dX11_count_107 : decode cX11_count 107 = .ok (.ireturn, 1) := by decide +kernel
theorem dX11_count_108 : decode cX11_count 108 = .ok (.aload_n 0, 1) := by decide +kernel
theorem dX11_count_109 : decode cX11_count 109 = .ok (.getfield 35, 3) := by decide +kernel
theorem dX11_count_112 : decode cX11_count 112 = .ok (.getfield 157, 3) := by decide +kernel
theorem dX11_count_115 : decode cX11_count 115 = .ok (.ireturn, 1) := by decide +kernel
theorem dX11_count_116 : decode cX11_count 116 = .ok (.aload_n 0, 1) := by decide +kernel
theorem dX11_count_117 : decode cX11_count 117 = .ok (.getfield 42, 3) := by decide +kernel
theorem dX11_count_120 : decode cX11_count 120 = .ok (.getfield 224, 3) := by decide +kernel
theorem dX11_count_123 : decode cX11_count 123 = .ok (.ireturn, 1) := by decide +kernel
theorem dX11_count_124 : decode cX11_count 124 = .ok (.aload_n 0, 1) := by decide +kernel
theorem dX11_count_125 : decode cX11_count 125 = .ok (.getfield 42, 3) := by decide +kernel
theorem dX11_count_128 : decode cX11_count 128 = .ok (.getfield 227, 3) := by decide +kernel
theorem dX11_count_131 : decode cX11_count 131 = .ok (.ireturn, 1) := by decide +kernel
theorem dX11_count_132 : decode cX11_count 132 = .ok (.aload_n 0, 1) := by decide +kernel
theorem dX11_count_133 : decode cX11_count 133 = .ok (.getfield 42, 3) := by decide +kernel
theorem dX11_count_136 : decode cX11_count 136 = .ok (.getfield 230, 3) := by decide +kernel
theorem dX11_count_139 : decode cX11_count 139 = .ok (.ireturn, 1) := by decide +kernel
theorem dX11_count_140 : decode cX11_count 140 = .ok (.aload_n 0, 1) := by decide +kernel
theorem dX11_count_141 : decode cX11_count 141 = .ok (.getfield 42, 3) := by decide +kernel
theorem dX11_count_144 : decode cX11_count 144 = .ok (.invokevirtual 185, 3) := by decide +kernel
theorem dX11_count_147 : decode cX11_count 147 = .ok (.ireturn, 1) := by decide +kernel
theorem dX11_count_148 : decode cX11_count 148 = .ok (.aload_n 0, 1) := by decide +kernel
theorem dX11_count_149 : decode cX11_count 149 = .ok (.getfield 99, 3) := by decide +kernel
theorem dX11_count_152 : decode cX11_count 152 = .ok (.ireturn, 1) := by decide +kernel
theorem dX11_count_153 : decode cX11_count 153 = .ok (.aload_n 0, 1) := by decide +kernel
theorem dX11_count_154 : decode cX11_count 154 = .ok (.getfield 233, 3) := by decide +kernel
theorem dX11_count_157 : decode cX11_count 157 = .ok (.ireturn, 1) := by decide +kernel
theorem dX11_count_158 : decode cX11_count 158 = .ok (.aload_n 0, 1) := by decide +kernel
theorem dX11_count_159 : decode cX11_count 159 = .ok (.getfield 72, 3) := by decide +kernel
theorem dX11_count_162 : decode cX11_count 162 = .ok (.getfield 146, 3) := by decide +kernel
theorem dX11_count_165 : decode cX11_count 165 = .ok (.ireturn, 1) := by decide +kernel
theorem dX11_count_166 : decode cX11_count 166 = .ok (.aload_n 0, 1) := by decide +kernel
theorem dX11_count_167 : decode cX11_count 167 = .ok (.getfield 151, 3) := by decide +kernel
theorem dX11_count_170 : decode cX11_count 170 = .ok (.ireturn, 1) := by decide +kernel
theorem dX11_count_171 : decode cX11_count 171 = .ok (.aload_n 0, 1) := by decide +kernel
theorem dX11_count_172 : decode cX11_count 172 = .ok (.getfield 65, 3) := by decide +kernel
theorem dX11_count_175 : decode cX11_count 175 = .ok (.invokevirtual 236, 3) := by decide +kernel
theorem dX11_count_178 : decode cX11_count 178 = .ok (.ireturn, 1) := by decide +kernel
theorem dX11_count_179 : decode cX11_count 179 = .ok (.aload_n 0, 1) := by decide +kernel
theorem dX11_count_180 : decode cX11_count 180 = .ok (.getfield 58, 3) := by decide +kernel
theorem dX11_count_183 : decode cX11_count 183 = .ok (.getfield 238, 3) := by decide +kernel
theorem dX11_count_186 : decode cX11_count 186 = .ok (.ireturn, 1) := by decide +kernel
theorem dX11_count_187 : decode cX11_count 187 = .ok (.ldc 241, 2) := by decide +kernel
theorem dX11_count_189 : decode cX11_count 189 = .ok (.ireturn, 1) := by decide +kernel
theorem dX11_strike_0 : decode cX11_strike 0 = .ok (.aload_n 0, 1) := by decide +kernel
theorem dX11_strike_1 : decode cX11_strike 1 = .ok (.iload_n 1, 1) := by decide +kernel
theorem dX11_strike_2 : decode cX11_strike 2 = .ok (.invokevirtual 160, 3) := by decide +kernel
theorem dX11_strike_5 : decode cX11_strike 5 = .ok (.ifCond .ne 9, 3) := by decide +kernel
theorem dX11_strike_8 : decode cX11_strike 8 = .ok (.aload_n 0, 1) := by decide +kernel
theorem dX11_strike_9 : decode cX11_strike 9 = .ok (.iconst 0, 1) := by decide +kernel
theorem dX11_strike_10 : decode cX11_strike 10 = .ok (.invokevirtual 242, 3) := by decide +kernel
theorem dX11_strike_13 : decode cX11_strike 13 = .ok (.ireturn, 1) := by decide +kernel
theorem dX11_strike_14 : decode cX11_strike 14 = .ok (.iload_n 2, 1) := by decide +kernel
theorem dX11_strike_15 : decode cX11_strike 15 = .ok (.invokestatic 245, 3) := by decide +kernel
theorem dX11_strike_18 : decode cX11_strike 18 = .ok (.ifCond .ne 9, 3) := by decide +kernel
theorem dX11_strike_21 : decode cX11_strike 21 = .ok (.aload_n 0, 1) := by decide +kernel
theorem dX11_strike_22 : decode cX11_strike 22 = .ok (.iconst 1, 1) := by decide +kernel
theorem dX11_strike_23 : decode cX11_strike 23 = .ok (.invokevirtual 242, 3) := by decide +kernel
theorem dX11_strike_26 : decode cX11_strike 26 = .ok (.ireturn, 1) := by decide +kernel
theorem dX11_strike_27 : decode cX11_strike 27 = .ok (.aload_n 0, 1) := by decide +kernel
theorem dX11_strike_28 : decode cX11_strike 28 = .ok (.invokevirtual 248, 3) := by decide +kernel
theorem dX11_strike_31 : decode cX11_strike 31 = .ok (.aload_n 0, 1) := by decide +kernel
theorem dX11_strike_32 : decode cX11_strike 32 = .ok (.iload_n 1, 1) := by decide +kernel
theorem dX11_strike_33 : decode cX11_strike 33 = .ok (.iload_n 2, 1) := by decide +kernel
theorem dX11_strike_34 : decode cX11_strike 34 = .ok (.invokevirtual 251, 3) := by decide +kernel
theorem dX11_strike_37 : decode cX11_strike 37 = .ok (.ireturn, 1) := by decide +kernel
theorem dX11_lay_0 : decode cX11_lay 0 = .ok (.aload_n 0, 1) := by decide +kernel
theorem dX11_lay_1 : decode cX11_lay 1 = .ok (.iload_n 1, 1) := by decide +kernel
theorem dX11_lay_2 : decode cX11_lay 2 = .ok (.iload_n 2, 1) := by decide +kernel
theorem dX11_lay_3 : decode cX11_lay 3 = .ok (.invokevirtual 254, 3) := by decide +kernel
theorem dX11_lay_6 : decode cX11_lay 6 = .ok (.ifCond .ne 9, 3) := by decide +kernel
theorem dX11_lay_9 : decode cX11_lay 9 = .ok (.aload_n 0, 1) := by decide +kernel
theorem dX11_lay_10 : decode cX11_lay 10 = .ok (.iconst 0, 1) := by decide +kernel
theorem dX11_lay_11 : decode cX11_lay 11 = .ok (.invokevirtual 242, 3) := by decide +kernel
theorem dX11_lay_14 : decode cX11_lay 14 = .ok (.ireturn, 1) := by decide +kernel
theorem dX11_lay_15 : decode cX11_lay 15 = .ok (.aload_n 0, 1) := by decide +kernel
theorem dX11_lay_16 : decode cX11_lay 16 = .ok (.getfield 42, 3) := by decide +kernel
theorem dX11_lay_19 : decode cX11_lay 19 = .ok (.iload_n 1, 1) := by decide +kernel
theorem dX11_lay_20 : decode cX11_lay 20 = .ok (.iload_n 2, 1) := by decide +kernel
theorem dX11_lay_21 : decode cX11_lay 21 = .ok (.invokevirtual 258, 3) := by decide +kernel
theorem dX11_lay_24 : decode cX11_lay 24 = .ok (.ifCond .eq 15, 3) := by decide +kernel
theorem dX11_lay_27 : decode cX11_lay 27 = .ok (.aload_n 0, 1) := by decide +kernel
theorem dX11_lay_28 : decode cX11_lay 28 = .ok (.getfield 42, 3) := by decide +kernel
theorem dX11_lay_31 : decode cX11_lay 31 = .ok (.getfield 221, 3) := by decide +kernel
theorem dX11_lay_34 : decode cX11_lay 34 = .ok (.bipush 16, 2) := by decide +kernel
theorem dX11_lay_36 : decode cX11_lay 36 = .ok (.if_icmp .lt 9, 3) := by decide +kernel
theorem dX11_lay_39 : decode cX11_lay 39 = .ok (.aload_n 0, 1) := by decide +kernel
theorem dX11_lay_40 : decode cX11_lay 40 = .ok (.iconst 2, 1) := by decide +kernel
theorem dX11_lay_41 : decode cX11_lay 41 = .ok (.invokevirtual 242, 3) := by decide +kernel
theorem dX11_lay_44 : decode cX11_lay 44 = .ok (.ireturn, 1) := by decide +kernel
theorem dX11_lay_45 : decode cX11_lay 45 = .ok (.aload_n 0, 1) := by decide +kernel
theorem dX11_lay_46 : decode cX11_lay 46 = .ok (.getfield 42, 3) := by decide +kernel
theorem dX11_lay_49 : decode cX11_lay 49 = .ok (.getfield 227, 3) := by decide +kernel
theorem dX11_lay_52 : decode cX11_lay 52 = .ok (.aload_n 0, 1) := by decide +kernel
theorem dX11_lay_53 : decode cX11_lay 53 = .ok (.getfield 42, 3) := by decide +kernel
theorem dX11_lay_56 : decode cX11_lay 56 = .ok (.iload_n 1, 1) := by decide +kernel
theorem dX11_lay_57 : decode cX11_lay 57 = .ok (.iload_n 2, 1) := by decide +kernel
theorem dX11_lay_58 : decode cX11_lay 58 = .ok (.invokevirtual 261, 3) := by decide +kernel
theorem dX11_lay_61 : decode cX11_lay 61 = .ok (.if_icmp .ge 9, 3) := by decide +kernel
theorem dX11_lay_64 : decode cX11_lay 64 = .ok (.aload_n 0, 1) := by decide +kernel
theorem dX11_lay_65 : decode cX11_lay 65 = .ok (.iconst 4, 1) := by decide +kernel
theorem dX11_lay_66 : decode cX11_lay 66 = .ok (.invokevirtual 242, 3) := by decide +kernel
theorem dX11_lay_69 : decode cX11_lay 69 = .ok (.ireturn, 1) := by decide +kernel
theorem dX11_lay_70 : decode cX11_lay 70 = .ok (.aload_n 0, 1) := by decide +kernel
theorem dX11_lay_71 : decode cX11_lay 71 = .ok (.invokevirtual 248, 3) := by decide +kernel
theorem dX11_lay_74 : decode cX11_lay 74 = .ok (.aload_n 0, 1) := by decide +kernel
theorem dX11_lay_75 : decode cX11_lay 75 = .ok (.getfield 42, 3) := by decide +kernel
theorem dX11_lay_78 : decode cX11_lay 78 = .ok (.dup, 1) := by decide +kernel
theorem dX11_lay_79 : decode cX11_lay 79 = .ok (.getfield 227, 3) := by decide +kernel
theorem dX11_lay_82 : decode cX11_lay 82 = .ok (.aload_n 0, 1) := by decide +kernel
theorem dX11_lay_83 : decode cX11_lay 83 = .ok (.getfield 42, 3) := by decide +kernel
theorem dX11_lay_86 : decode cX11_lay 86 = .ok (.iload_n 1, 1) := by decide +kernel
theorem dX11_lay_87 : decode cX11_lay 87 = .ok (.iload_n 2, 1) := by decide +kernel
theorem dX11_lay_88 : decode cX11_lay 88 = .ok (.invokevirtual 261, 3) := by decide +kernel
theorem dX11_lay_91 : decode cX11_lay 91 = .ok (.isub, 1) := by decide +kernel
theorem dX11_lay_92 : decode cX11_lay 92 = .ok (.putfield 227, 3) := by decide +kernel
theorem dX11_lay_95 : decode cX11_lay 95 = .ok (.aload_n 0, 1) := by decide +kernel
theorem dX11_lay_96 : decode cX11_lay 96 = .ok (.getfield 42, 3) := by decide +kernel
theorem dX11_lay_99 : decode cX11_lay 99 = .ok (.iload_n 1, 1) := by decide +kernel
theorem dX11_lay_100 : decode cX11_lay 100 = .ok (.iload_n 2, 1) := by decide +kernel
theorem dX11_lay_101 : decode cX11_lay 101 = .ok (.invokevirtual 264, 3) := by decide +kernel
theorem dX11_lay_104 : decode cX11_lay 104 = .ok (.aload_n 0, 1) := by decide +kernel
theorem dX11_lay_105 : decode cX11_lay 105 = .ok (.getfield 42, 3) := by decide +kernel
theorem dX11_lay_108 : decode cX11_lay 108 = .ok (.dup, 1) := by decide +kernel
theorem dX11_lay_109 : decode cX11_lay 109 = .ok (.getfield 221, 3) := by decide +kernel
theorem dX11_lay_112 : decode cX11_lay 112 = .ok (.iconst 1, 1) := by decide +kernel
theorem dX11_lay_113 : decode cX11_lay 113 = .ok (.iadd, 1) := by decide +kernel
theorem dX11_lay_114 : decode cX11_lay 114 = .ok (.putfield 221, 3) := by decide +kernel
theorem dX11_lay_117 : decode cX11_lay 117 = .ok (.aload_n 0, 1) := by decide +kernel
theorem dX11_lay_118 : decode cX11_lay 118 = .ok (.getfield 42, 3) := by decide +kernel
theorem dX11_lay_121 : decode cX11_lay 121 = .ok (.getfield 221, 3) := by decide +kernel
theorem dX11_lay_124 : decode cX11_lay 124 = .ok (.iconst 1, 1) := by decide +kernel
theorem dX11_lay_125 : decode cX11_lay 125 = .ok (.isub, 1) := by decide +kernel
theorem dX11_lay_126 : decode cX11_lay 126 = .ok (.ireturn, 1) := by decide +kernel
theorem dX11_cut_0 : decode cX11_cut 0 = .ok (.aload_n 0, 1) := by decide +kernel
theorem dX11_cut_1 : decode cX11_cut 1 = .ok (.iload_n 1, 1) := by decide +kernel
theorem dX11_cut_2 : decode cX11_cut 2 = .ok (.invokevirtual 200, 3) := by decide +kernel
theorem dX11_cut_5 : decode cX11_cut 5 = .ok (.ifCond .ne 9, 3) := by decide +kernel
theorem dX11_cut_8 : decode cX11_cut 8 = .ok (.aload_n 0, 1) := by decide +kernel
theorem dX11_cut_9 : decode cX11_cut 9 = .ok (.iconst 0, 1) := by decide +kernel
theorem dX11_cut_10 : decode cX11_cut 10 = .ok (.invokevirtual 242, 3) := by decide +kernel
theorem dX11_cut_13 : decode cX11_cut 13 = .ok (.ireturn, 1) := by decide +kernel
theorem dX11_cut_14 : decode cX11_cut 14 = .ok (.aload_n 0, 1) := by decide +kernel
theorem dX11_cut_15 : decode cX11_cut 15 = .ok (.getfield 42, 3) := by decide +kernel
theorem dX11_cut_18 : decode cX11_cut 18 = .ok (.getfield 212, 3) := by decide +kernel
theorem dX11_cut_21 : decode cX11_cut 21 = .ok (.iload_n 1, 1) := by decide +kernel
theorem dX11_cut_22 : decode cX11_cut 22 = .ok (.invokestatic 215, 3) := by decide +kernel
theorem dX11_cut_25 : decode cX11_cut 25 = .ok (.iconst 1, 1) := by decide +kernel
theorem dX11_cut_26 : decode cX11_cut 26 = .ok (.if_icmp .ne 9, 3) := by decide +kernel
theorem dX11_cut_29 : decode cX11_cut 29 = .ok (.aload_n 0, 1) := by decide +kernel
theorem dX11_cut_30 : decode cX11_cut 30 = .ok (.iconst 3, 1) := by decide +kernel
theorem dX11_cut_31 : decode cX11_cut 31 = .ok (.invokevirtual 242, 3) := by decide +kernel
theorem dX11_cut_34 : decode cX11_cut 34 = .ok (.ireturn, 1) := by decide +kernel
theorem dX11_cut_35 : decode cX11_cut 35 = .ok (.aload_n 0, 1) := by decide +kernel
theorem dX11_cut_36 : decode cX11_cut 36 = .ok (.invokevirtual 248, 3) := by decide +kernel
theorem dX11_cut_39 : decode cX11_cut 39 = .ok (.aload_n 0, 1) := by decide +kernel
theorem dX11_cut_40 : decode cX11_cut 40 = .ok (.getfield 42, 3) := by decide +kernel
theorem dX11_cut_43 : decode cX11_cut 43 = .ok (.dup, 1) := by decide +kernel
theorem dX11_cut_44 : decode cX11_cut 44 = .ok (.getfield 212, 3) := by decide +kernel
theorem dX11_cut_47 : decode cX11_cut 47 = .ok (.iconst 1, 1) := by decide +kernel
theorem dX11_cut_48 : decode cX11_cut 48 = .ok (.iload_n 1, 1) := by decide +kernel
theorem dX11_cut_49 : decode cX11_cut 49 = .ok (.ishl, 1) := by decide +kernel
theorem dX11_cut_50 : decode cX11_cut 50 = .ok (.ior, 1) := by decide +kernel
theorem dX11_cut_51 : decode cX11_cut 51 = .ok (.putfield 212, 3) := by decide +kernel
theorem dX11_cut_54 : decode cX11_cut 54 = .ok (.aload_n 0, 1) := by decide +kernel
theorem dX11_cut_55 : decode cX11_cut 55 = .ok (.getfield 42, 3) := by decide +kernel
theorem dX11_cut_58 : decode cX11_cut 58 = .ok (.aload_n 0, 1) := by decide +kernel
theorem dX11_cut_59 : decode cX11_cut 59 = .ok (.getfield 42, 3) := by decide +kernel
theorem dX11_cut_62 : decode cX11_cut 62 = .ok (.aload_n 0, 1) := by decide +kernel
theorem dX11_cut_63 : decode cX11_cut 63 = .ok (.getfield 42, 3) := by decide +kernel
theorem dX11_cut_66 : decode cX11_cut 66 = .ok (.getfield 203, 3) := by decide +kernel
theorem dX11_cut_69 : decode cX11_cut 69 = .ok (.iload_n 1, 1) := by decide +kernel
theorem dX11_cut_70 : decode cX11_cut 70 = .ok (.iaload, 1) := by decide +kernel
theorem dX11_cut_71 : decode cX11_cut 71 = .ok (.aload_n 0, 1) := by decide +kernel
theorem dX11_cut_72 : decode cX11_cut 72 = .ok (.getfield 42, 3) := by decide +kernel
theorem dX11_cut_75 : decode cX11_cut 75 = .ok (.getfield 206, 3) := by decide +kernel
theorem dX11_cut_78 : decode cX11_cut 78 = .ok (.iload_n 1, 1) := by decide +kernel
theorem dX11_cut_79 : decode cX11_cut 79 = .ok (.iaload, 1) := by decide +kernel
theorem dX11_cut_80 : decode cX11_cut 80 = .ok (.invokevirtual 261, 3) := by decide +kernel
theorem dX11_cut_83 : decode cX11_cut 83 = .ok (.iconst 2, 1) := by decide +kernel
theorem dX11_cut_84 : decode cX11_cut 84 = .ok (.idiv, 1) := by decide +kernel
theorem dX11_cut_85 : decode cX11_cut 85 = .ok (.invokevirtual 268, 3) := by decide +kernel
theorem dX11_cut_88 : decode cX11_cut 88 = .ok (.aload_n 0, 1) := by decide +kernel
theorem dX11_cut_89 : decode cX11_cut 89 = .ok (.getfield 42, 3) := by decide +kernel
theorem dX11_cut_92 : decode cX11_cut 92 = .ok (.getfield 227, 3) := by decide +kernel
theorem dX11_cut_95 : decode cX11_cut 95 = .ok (.ireturn, 1) := by decide +kernel
theorem dX11_scrape_0 : decode cX11_scrape 0 = .ok (.aload_n 0, 1) := by decide +kernel
theorem dX11_scrape_1 : decode cX11_scrape 1 = .ok (.iload_n 1, 1) := by decide +kernel
theorem dX11_scrape_2 : decode cX11_scrape 2 = .ok (.invokevirtual 200, 3) := by decide +kernel
theorem dX11_scrape_5 : decode cX11_scrape 5 = .ok (.ifCond .ne 9, 3) := by decide +kernel
theorem dX11_scrape_8 : decode cX11_scrape 8 = .ok (.aload_n 0, 1) := by decide +kernel
theorem dX11_scrape_9 : decode cX11_scrape 9 = .ok (.iconst 0, 1) := by decide +kernel
theorem dX11_scrape_10 : decode cX11_scrape 10 = .ok (.invokevirtual 242, 3) := by decide +kernel
theorem dX11_scrape_13 : decode cX11_scrape 13 = .ok (.ireturn, 1) := by decide +kernel
theorem dX11_scrape_14 : decode cX11_scrape 14 = .ok (.aload_n 0, 1) := by decide +kernel
theorem dX11_scrape_15 : decode cX11_scrape 15 = .ok (.getfield 42, 3) := by decide +kernel
theorem dX11_scrape_18 : decode cX11_scrape 18 = .ok (.getfield 212, 3) := by decide +kernel
theorem dX11_scrape_21 : decode cX11_scrape 21 = .ok (.iload_n 1, 1) := by decide +kernel
theorem dX11_scrape_22 : decode cX11_scrape 22 = .ok (.invokestatic 215, 3) := by decide +kernel
theorem dX11_scrape_25 : decode cX11_scrape 25 = .ok (.iconst 1, 1) := by decide +kernel
theorem dX11_scrape_26 : decode cX11_scrape 26 = .ok (.if_icmp .eq 15, 3) := by decide +kernel
theorem dX11_scrape_29 : decode cX11_scrape 29 = .ok (.aload_n 0, 1) := by decide +kernel
theorem dX11_scrape_30 : decode cX11_scrape 30 = .ok (.getfield 42, 3) := by decide +kernel
theorem dX11_scrape_33 : decode cX11_scrape 33 = .ok (.getfield 209, 3) := by decide +kernel
theorem dX11_scrape_36 : decode cX11_scrape 36 = .ok (.iload_n 1, 1) := by decide +kernel
theorem dX11_scrape_37 : decode cX11_scrape 37 = .ok (.iaload, 1) := by decide +kernel
theorem dX11_scrape_38 : decode cX11_scrape 38 = .ok (.ifCond .ne 9, 3) := by decide +kernel
theorem dX11_scrape_41 : decode cX11_scrape 41 = .ok (.aload_n 0, 1) := by decide +kernel
theorem dX11_scrape_42 : decode cX11_scrape 42 = .ok (.iconst 3, 1) := by decide +kernel
theorem dX11_scrape_43 : decode cX11_scrape 43 = .ok (.invokevirtual 242, 3) := by decide +kernel
theorem dX11_scrape_46 : decode cX11_scrape 46 = .ok (.ireturn, 1) := by decide +kernel
theorem dX11_scrape_47 : decode cX11_scrape 47 = .ok (.aload_n 0, 1) := by decide +kernel
theorem dX11_scrape_48 : decode cX11_scrape 48 = .ok (.getfield 42, 3) := by decide +kernel
theorem dX11_scrape_51 : decode cX11_scrape 51 = .ok (.getfield 227, 3) := by decide +kernel
theorem dX11_scrape_54 : decode cX11_scrape 54 = .ok (.iconst 1, 1) := by decide +kernel
theorem dX11_scrape_55 : decode cX11_scrape 55 = .ok (.if_icmp .ge 9, 3) := by decide +kernel
theorem dX11_scrape_58 : decode cX11_scrape 58 = .ok (.aload_n 0, 1) := by decide +kernel
theorem dX11_scrape_59 : decode cX11_scrape 59 = .ok (.iconst 4, 1) := by decide +kernel
theorem dX11_scrape_60 : decode cX11_scrape 60 = .ok (.invokevirtual 242, 3) := by decide +kernel
theorem dX11_scrape_63 : decode cX11_scrape 63 = .ok (.ireturn, 1) := by decide +kernel
theorem dX11_scrape_64 : decode cX11_scrape 64 = .ok (.aload_n 0, 1) := by decide +kernel
theorem dX11_scrape_65 : decode cX11_scrape 65 = .ok (.invokevirtual 248, 3) := by decide +kernel
theorem dX11_scrape_68 : decode cX11_scrape 68 = .ok (.aload_n 0, 1) := by decide +kernel
theorem dX11_scrape_69 : decode cX11_scrape 69 = .ok (.getfield 42, 3) := by decide +kernel
theorem dX11_scrape_72 : decode cX11_scrape 72 = .ok (.getfield 209, 3) := by decide +kernel
theorem dX11_scrape_75 : decode cX11_scrape 75 = .ok (.iload_n 1, 1) := by decide +kernel
theorem dX11_scrape_76 : decode cX11_scrape 76 = .ok (.iconst 0, 1) := by decide +kernel
theorem dX11_scrape_77 : decode cX11_scrape 77 = .ok (.iastore, 1) := by decide +kernel
theorem dX11_scrape_78 : decode cX11_scrape 78 = .ok (.aload_n 0, 1) := by decide +kernel
theorem dX11_scrape_79 : decode cX11_scrape 79 = .ok (.getfield 42, 3) := by decide +kernel
theorem dX11_scrape_82 : decode cX11_scrape 82 = .ok (.dup, 1) := by decide +kernel
theorem dX11_scrape_83 : decode cX11_scrape 83 = .ok (.getfield 227, 3) := by decide +kernel
theorem dX11_scrape_86 : decode cX11_scrape 86 = .ok (.iconst 1, 1) := by decide +kernel
theorem dX11_scrape_87 : decode cX11_scrape 87 = .ok (.isub, 1) := by decide +kernel
theorem dX11_scrape_88 : decode cX11_scrape 88 = .ok (.putfield 227, 3) := by decide +kernel
theorem dX11_scrape_91 : decode cX11_scrape 91 = .ok (.aload_n 0, 1) := by decide +kernel
theorem dX11_scrape_92 : decode cX11_scrape 92 = .ok (.getfield 42, 3) := by decide +kernel
theorem dX11_scrape_95 : decode cX11_scrape 95 = .ok (.getfield 227, 3) := by decide +kernel
theorem dX11_scrape_98 : decode cX11_scrape 98 = .ok (.ireturn, 1) := by decide +kernel
theorem dX11_ground_0 : decode cX11_ground 0 = .ok (.aload_n 0, 1) := by decide +kernel
theorem dX11_ground_1 : decode cX11_ground 1 = .ok (.iload_n 1, 1) := by decide +kernel
theorem dX11_ground_2 : decode cX11_ground 2 = .ok (.invokevirtual 160, 3) := by decide +kernel
theorem dX11_ground_5 : decode cX11_ground 5 = .ok (.ifCond .ne 9, 3) := by decide +kernel
theorem dX11_ground_8 : decode cX11_ground 8 = .ok (.aload_n 0, 1) := by decide +kernel
theorem dX11_ground_9 : decode cX11_ground 9 = .ok (.iconst 0, 1) := by decide +kernel
theorem dX11_ground_10 : decode cX11_ground 10 = .ok (.invokevirtual 242, 3) := by decide +kernel
theorem dX11_ground_13 : decode cX11_ground 13 = .ok (.ireturn, 1) := by decide +kernel
theorem dX11_ground_14 : decode cX11_ground 14 = .ok (.aload_n 0, 1) := by decide +kernel
theorem dX11_ground_15 : decode cX11_ground 15 = .ok (.getfield 42, 3) := by decide +kernel
theorem dX11_ground_18 : decode cX11_ground 18 = .ok (.getfield 227, 3) := by decide +kernel
theorem dX11_ground_21 : decode cX11_ground 21 = .ok (.iconst 5, 1) := by decide +kernel
theorem dX11_ground_22 : decode cX11_ground 22 = .ok (.if_icmp .ge 9, 3) := by decide +kernel
theorem dX11_ground_25 : decode cX11_ground 25 = .ok (.aload_n 0, 1) := by decide +kernel
theorem dX11_ground_26 : decode cX11_ground 26 = .ok (.iconst 4, 1) := by decide +kernel
theorem dX11_ground_27 : decode cX11_ground 27 = .ok (.invokevirtual 242, 3) := by decide +kernel
theorem dX11_ground_30 : decode cX11_ground 30 = .ok (.ireturn, 1) := by decide +kernel
theorem dX11_ground_31 : decode cX11_ground 31 = .ok (.aload_n 0, 1) := by decide +kernel
theorem dX11_ground_32 : decode cX11_ground 32 = .ok (.invokevirtual 248, 3) := by decide +kernel
theorem dX11_ground_35 : decode cX11_ground 35 = .ok (.aload_n 0, 1) := by decide +kernel
theorem dX11_ground_36 : decode cX11_ground 36 = .ok (.getfield 42, 3) := by decide +kernel
theorem dX11_ground_39 : decode cX11_ground 39 = .ok (.dup, 1) := by decide +kernel
theorem dX11_ground_40 : decode cX11_ground 40 = .ok (.getfield 227, 3) := by decide +kernel
theorem dX11_ground_43 : decode cX11_ground 43 = .ok (.iconst 5, 1) := by decide +kernel
theorem dX11_ground_44 : decode cX11_ground 44 = .ok (.isub, 1) := by decide +kernel
theorem dX11_ground_45 : decode cX11_ground 45 = .ok (.putfield 227, 3) := by decide +kernel
theorem dX11_ground_48 : decode cX11_ground 48 = .ok (.aload_n 0, 1) := by decide +kernel
theorem dX11_ground_49 : decode cX11_ground 49 = .ok (.getfield 42, 3) := by decide +kernel
theorem dX11_ground_52 : decode cX11_ground 52 = .ok (.getfield 176, 3) := by decide +kernel
theorem dX11_ground_55 : decode cX11_ground 55 = .ok (.iload_n 1, 1) := by decide +kernel
theorem dX11_ground_56 : decode cX11_ground 56 = .ok (.aload_n 0, 1) := by decide +kernel
theorem dX11_ground_57 : decode cX11_ground 57 = .ok (.getfield 42, 3) := by decide +kernel
theorem dX11_ground_60 : decode cX11_ground 60 = .ok (.iload_n 1, 1) := by decide +kernel
theorem dX11_ground_61 : decode cX11_ground 61 = .ok (.invokevirtual 271, 3) := by decide +kernel
theorem dX11_ground_64 : decode cX11_ground 64 = .ok (.iastore, 1) := by decide +kernel
theorem dX11_ground_65 : decode cX11_ground 65 = .ok (.aload_n 0, 1) := by decide +kernel
theorem dX11_ground_66 : decode cX11_ground 66 = .ok (.getfield 42, 3) := by decide +kernel
theorem dX11_ground_69 : decode cX11_ground 69 = .ok (.getfield 176, 3) := by decide +kernel
theorem dX11_ground_72 : decode cX11_ground 72 = .ok (.iload_n 1, 1) := by decide +kernel
theorem dX11_ground_73 : decode cX11_ground 73 = .ok (.iaload, 1) := by decide +kernel
theorem dX11_ground_74 : decode cX11_ground 74 = .ok (.ireturn, 1) := by decide +kernel
theorem dX11_summers_0 : decode cX11_summers 0 = .ok (.aload_n 0, 1) := by decide +kernel
theorem dX11_summers_1 : decode cX11_summers 1 = .ok (.invokevirtual 274, 3) := by decide +kernel
theorem dX11_summers_4 : decode cX11_summers 4 = .ok (.ifCond .ne 9, 3) := by decide +kernel
theorem dX11_summers_7 : decode cX11_summers 7 = .ok (.aload_n 0, 1) := by decide +kernel
theorem dX11_summers_8 : decode cX11_summers 8 = .ok (.iconst 0, 1) := by decide +kernel
theorem dX11_summers_9 : decode cX11_summers 9 = .ok (.invokevirtual 242, 3) := by decide +kernel
theorem dX11_summers_12 : decode cX11_summers 12 = .ok (.ireturn, 1) := by decide +kernel
theorem dX11_summers_13 : decode cX11_summers 13 = .ok (.aload_n 0, 1) := by decide +kernel
theorem dX11_summers_14 : decode cX11_summers 14 = .ok (.iload_n 1, 1) := by decide +kernel
theorem dX11_summers_15 : decode cX11_summers 15 = .ok (.invokevirtual 278, 3) := by decide +kernel
theorem dX11_summers_18 : decode cX11_summers 18 = .ok (.ifCond .ne 9, 3) := by decide +kernel
theorem dX11_summers_21 : decode cX11_summers 21 = .ok (.aload_n 0, 1) := by decide +kernel
theorem dX11_summers_22 : decode cX11_summers 22 = .ok (.iconst 1, 1) := by decide +kernel
theorem dX11_summers_23 : decode cX11_summers 23 = .ok (.invokevirtual 242, 3) := by decide +kernel
theorem dX11_summers_26 : decode cX11_summers 26 = .ok (.ireturn, 1) := by decide +kernel
theorem dX11_summers_27 : decode cX11_summers 27 = .ok (.iconst 0, 1) := by decide +kernel
theorem dX11_summers_28 : decode cX11_summers 28 = .ok (.istore_n 2, 1) := by decide +kernel
theorem dX11_summers_29 : decode cX11_summers 29 = .ok (.iload_n 2, 1) := by decide +kernel
theorem dX11_summers_30 : decode cX11_summers 30 = .ok (.iload_n 1, 1) := by decide +kernel
theorem dX11_summers_31 : decode cX11_summers 31 = .ok (.if_icmp .ge 20, 3) := by decide +kernel
theorem dX11_summers_34 : decode cX11_summers 34 = .ok (.aload_n 0, 1) := by decide +kernel
theorem dX11_summers_35 : decode cX11_summers 35 = .ok (.invokevirtual 248, 3) := by decide +kernel
theorem dX11_summers_38 : decode cX11_summers 38 = .ok (.aload_n 0, 1) := by decide +kernel
theorem dX11_summers_39 : decode cX11_summers 39 = .ok (.getfield 42, 3) := by decide +kernel
theorem dX11_summers_42 : decode cX11_summers 42 = .ok (.invokevirtual 281, 3) := by decide +kernel
theorem dX11_summers_45 : decode cX11_summers 45 = .ok (.iinc 2 1, 3) := by decide +kernel
theorem dX11_summers_48 : decode cX11_summers 48 = .ok (.goto (-19), 3) := by decide +kernel
theorem dX11_summers_51 : decode cX11_summers 51 = .ok (.aload_n 0, 1) := by decide +kernel
theorem dX11_summers_52 : decode cX11_summers 52 = .ok (.getfield 42, 3) := by decide +kernel
theorem dX11_summers_55 : decode cX11_summers 55 = .ok (.getfield 224, 3) := by decide +kernel
theorem dX11_summers_58 : decode cX11_summers 58 = .ok (.ireturn, 1) := by decide +kernel
theorem dX11_set_0 : decode cX11_set 0 = .ok (.iload_n 1, 1) := by decide +kernel
theorem dX11_set_1 : decode cX11_set 1 = .ok (.invokestatic 121, 3) := by decide +kernel
theorem dX11_set_4 : decode cX11_set 4 = .ok (.ifCond .eq 32, 3) := by decide +kernel
theorem dX11_set_7 : decode cX11_set 7 = .ok (.iload_n 2, 1) := by decide +kernel
theorem dX11_set_8 : decode cX11_set 8 = .ok (.ifCond .lt 28, 3) := by decide +kernel
theorem dX11_set_11 : decode cX11_set 11 = .ok (.iload_n 2, 1) := by decide +kernel
theorem dX11_set_12 : decode cX11_set 12 = .ok (.bipush 9, 2) := by decide +kernel
theorem dX11_set_14 : decode cX11_set 14 = .ok (.if_icmp .gt 22, 3) := by decide +kernel
theorem dX11_set_17 : decode cX11_set 17 = .ok (.iload_n 2, 1) := by decide +kernel
theorem dX11_set_18 : decode cX11_set 18 = .ok (.iload_n 1, 1) := by decide +kernel
theorem dX11_set_19 : decode cX11_set 19 = .ok (.ifCond .ne 10, 3) := by decide +kernel
theorem dX11_set_22 : decode cX11_set 22 = .ok (.aload_n 0, 1) := by decide +kernel
theorem dX11_set_23 : decode cX11_set 23 = .ok (.getfield 99, 3) := by decide +kernel
theorem dX11_set_26 : decode cX11_set 26 = .ok (.goto 7, 3) := by decide +kernel
theorem dX11_set_29 : decode cX11_set 29 = .ok (.aload_n 0, 1) := by decide +kernel
theorem dX11_set_30 : decode cX11_set 30 = .ok (.getfield 233, 3) := by decide +kernel
theorem dX11_set_33 : decode cX11_set 33 = .ok (.if_icmp .ne 5, 3) := by decide +kernel
theorem dX11_set_36 : decode cX11_set 36 = .ok (.iconst 0, 1) := by decide +kernel
theorem dX11_set_37 : decode cX11_set 37 = .ok (.ireturn, 1) := by decide +kernel
theorem dX11_set_38 : decode cX11_set 38 = .ok (.iload_n 1, 1) := by decide +kernel
theorem dX11_set_39 : decode cX11_set 39 = .ok (.ifCond .ne 11, 3) := by decide +kernel
theorem dX11_set_42 : decode cX11_set 42 = .ok (.aload_n 0, 1) := by decide +kernel
theorem dX11_set_43 : decode cX11_set 43 = .ok (.iload_n 2, 1) := by decide +kernel
theorem dX11_set_44 : decode cX11_set 44 = .ok (.putfield 99, 3) := by decide +kernel
theorem dX11_set_47 : decode cX11_set 47 = .ok (.goto 8, 3) := by decide +kernel
theorem dX11_set_50 : decode cX11_set 50 = .ok (.aload_n 0, 1) := by decide +kernel
theorem dX11_set_51 : decode cX11_set 51 = .ok (.iload_n 2, 1) := by decide +kernel
theorem dX11_set_52 : decode cX11_set 52 = .ok (.putfield 233, 3) := by decide +kernel
theorem dX11_set_55 : decode cX11_set 55 = .ok (.iconst 1, 1) := by decide +kernel
theorem dX11_set_56 : decode cX11_set 56 = .ok (.ireturn, 1) := by decide +kernel
theorem dX11_decades_0 : decode cX11_decades 0 = .ok (.aload_n 0, 1) := by decide +kernel
theorem dX11_decades_1 : decode cX11_decades 1 = .ok (.invokevirtual 274, 3) := by decide +kernel
theorem dX11_decades_4 : decode cX11_decades 4 = .ok (.ifCond .eq 11, 3) := by decide +kernel
theorem dX11_decades_7 : decode cX11_decades 7 = .ok (.aload_n 0, 1) := by decide +kernel
theorem dX11_decades_8 : decode cX11_decades 8 = .ok (.iload_n 1, 1) := by decide +kernel
theorem dX11_decades_9 : decode cX11_decades 9 = .ok (.invokevirtual 278, 3) := by decide +kernel
theorem dX11_decades_12 : decode cX11_decades 12 = .ok (.ifCond .ne 5, 3) := by decide +kernel
theorem dX11_decades_15 : decode cX11_decades 15 = .ok (.iconst (-1), 1) := by decide +kernel
theorem dX11_decades_16 : decode cX11_decades 16 = .ok (.ireturn, 1) := by decide +kernel
theorem dX11_decades_17 : decode cX11_decades 17 = .ok (.aload_n 0, 1) := by decide +kernel
theorem dX11_decades_18 : decode cX11_decades 18 = .ok (.lload_n 2, 1) := by decide +kernel
theorem dX11_decades_19 : decode cX11_decades 19 = .ok (.putfield 284, 3) := by decide +kernel
theorem dX11_decades_22 : decode cX11_decades 22 = .ok (.iconst 0, 1) := by decide +kernel
theorem dX11_decades_23 : decode cX11_decades 23 = .ok (.istore 4, 2) := by decide +kernel
theorem dX11_decades_25 : decode cX11_decades 25 = .ok (.iload 4, 2) := by decide +kernel
theorem dX11_decades_27 : decode cX11_decades 27 = .ok (.iload_n 1, 1) := by decide +kernel
theorem dX11_decades_28 : decode cX11_decades 28 = .ok (.if_icmp .ge 85, 3) := by decide +kernel
theorem dX11_decades_31 : decode cX11_decades 31 = .ok (.aload_n 0, 1) := by decide +kernel
theorem dX11_decades_32 : decode cX11_decades 32 = .ok (.invokevirtual 248, 3) := by decide +kernel
theorem dX11_decades_35 : decode cX11_decades 35 = .ok (.aload_n 0, 1) := by decide +kernel
theorem dX11_decades_36 : decode cX11_decades 36 = .ok (.bipush 10, 2) := by decide +kernel
theorem dX11_decades_38 : decode cX11_decades 38 = .ok (.invokevirtual 287, 3) := by decide +kernel
theorem dX11_decades_41 : decode cX11_decades 41 = .ok (.aload_n 0, 1) := by decide +kernel
theorem dX11_decades_42 : decode cX11_decades 42 = .ok (.getfield 99, 3) := by decide +kernel
theorem dX11_decades_45 : decode cX11_decades 45 = .ok (.if_icmp .ge 7, 3) := by decide +kernel
theorem dX11_decades_48 : decode cX11_decades 48 = .ok (.aload_n 0, 1) := by decide +kernel
theorem dX11_decades_49 : decode cX11_decades 49 = .ok (.invokevirtual 290, 3) := by decide +kernel
theorem dX11_decades_52 : decode cX11_decades 52 = .ok (.aload_n 0, 1) := by decide +kernel
theorem dX11_decades_53 : decode cX11_decades 53 = .ok (.bipush 10, 2) := by decide +kernel
theorem dX11_decades_55 : decode cX11_decades 55 = .ok (.invokevirtual 287, 3) := by decide +kernel
theorem dX11_decades_58 : decode cX11_decades 58 = .ok (.aload_n 0, 1) := by decide +kernel
theorem dX11_decades_59 : decode cX11_decades 59 = .ok (.getfield 233, 3) := by decide +kernel
theorem dX11_decades_62 : decode cX11_decades 62 = .ok (.if_icmp .ge 38, 3) := by decide +kernel
theorem dX11_decades_65 : decode cX11_decades 65 = .ok (.aload_n 0, 1) := by decide +kernel
theorem dX11_decades_66 : decode cX11_decades 66 = .ok (.getfield 42, 3) := by decide +kernel
theorem dX11_decades_69 : decode cX11_decades 69 = .ok (.getfield 221, 3) := by decide +kernel
theorem dX11_decades_72 : decode cX11_decades 72 = .ok (.ifCond .le 28, 3) := by decide +kernel
theorem dX11_decades_75 : decode cX11_decades 75 = .ok (.aload_n 0, 1) := by decide +kernel
theorem dX11_decades_76 : decode cX11_decades 76 = .ok (.getfield 42, 3) := by decide +kernel
theorem dX11_decades_79 : decode cX11_decades 79 = .ok (.dup, 1) := by decide +kernel
theorem dX11_decades_80 : decode cX11_decades 80 = .ok (.getfield 212, 3) := by decide +kernel
theorem dX11_decades_83 : decode cX11_decades 83 = .ok (.iconst 1, 1) := by decide +kernel
theorem dX11_decades_84 : decode cX11_decades 84 = .ok (.aload_n 0, 1) := by decide +kernel
theorem dX11_decades_85 : decode cX11_decades 85 = .ok (.aload_n 0, 1) := by decide +kernel
theorem dX11_decades_86 : decode cX11_decades 86 = .ok (.getfield 42, 3) := by decide +kernel
theorem dX11_decades_89 : decode cX11_decades 89 = .ok (.getfield 221, 3) := by decide +kernel
theorem dX11_decades_92 : decode cX11_decades 92 = .ok (.invokevirtual 287, 3) := by decide +kernel
theorem dX11_decades_95 : decode cX11_decades 95 = .ok (.ishl, 1) := by decide +kernel
theorem dX11_decades_96 : decode cX11_decades 96 = .ok (.ior, 1) := by decide +kernel
theorem dX11_decades_97 : decode cX11_decades 97 = .ok (.putfield 212, 3) := by decide +kernel
theorem dX11_decades_100 : decode cX11_decades 100 = .ok (.aload_n 0, 1) := by decide +kernel
theorem dX11_decades_101 : decode cX11_decades 101 = .ok (.getfield 42, 3) := by decide +kernel
theorem dX11_decades_104 : decode cX11_decades 104 = .ok (.invokevirtual 281, 3) := by decide +kernel
theorem dX11_decades_107 : decode cX11_decades 107 = .ok (.iinc 4 1, 3) := by decide +kernel
theorem dX11_decades_110 : decode cX11_decades 110 = .ok (.goto (-85), 3) := by decide +kernel
theorem dX11_decades_113 : decode cX11_decades 113 = .ok (.aload_n 0, 1) := by decide +kernel
theorem dX11_decades_114 : decode cX11_decades 114 = .ok (.getfield 42, 3) := by decide +kernel
theorem dX11_decades_117 : decode cX11_decades 117 = .ok (.getfield 224, 3) := by decide +kernel
theorem dX11_decades_120 : decode cX11_decades 120 = .ok (.ireturn, 1) := by decide +kernel
theorem dX11_undo_0 : decode cX11_undo 0 = .ok (.aload_n 0, 1) := by decide +kernel
theorem dX11_undo_1 : decode cX11_undo 1 = .ok (.getfield 58, 3) := by decide +kernel
theorem dX11_undo_4 : decode cX11_undo 4 = .ok (.getfield 238, 3) := by decide +kernel
theorem dX11_undo_7 : decode cX11_undo 7 = .ok (.ifCond .ne 5, 3) := by decide +kernel
theorem dX11_undo_10 : decode cX11_undo 10 = .ok (.iconst (-1), 1) := by decide +kernel
theorem dX11_undo_11 : decode cX11_undo 11 = .ok (.ireturn, 1) := by decide +kernel
theorem dX11_undo_12 : decode cX11_undo 12 = .ok (.aload_n 0, 1) := by decide +kernel
theorem dX11_undo_13 : decode cX11_undo 13 = .ok (.getfield 65, 3) := by decide +kernel
theorem dX11_undo_16 : decode cX11_undo 16 = .ok (.aload_n 0, 1) := by decide +kernel
theorem dX11_undo_17 : decode cX11_undo 17 = .ok (.getfield 58, 3) := by decide +kernel
theorem dX11_undo_20 : decode cX11_undo 20 = .ok (.aload_n 0, 1) := by decide +kernel
theorem dX11_undo_21 : decode cX11_undo 21 = .ok (.getfield 42, 3) := by decide +kernel
theorem dX11_undo_24 : decode cX11_undo 24 = .ok (.invokevirtual 293, 3) := by decide +kernel
theorem dX11_undo_27 : decode cX11_undo 27 = .ok (.putfield 297, 3) := by decide +kernel
theorem dX11_undo_30 : decode cX11_undo 30 = .ok (.aload_n 0, 1) := by decide +kernel
theorem dX11_undo_31 : decode cX11_undo 31 = .ok (.getfield 58, 3) := by decide +kernel
theorem dX11_undo_34 : decode cX11_undo 34 = .ok (.getfield 238, 3) := by decide +kernel
theorem dX11_undo_37 : decode cX11_undo 37 = .ok (.ireturn, 1) := by decide +kernel
theorem dX11_image_0 : decode cX11_image 0 = .ok (.aload_n 0, 1) := by decide +kernel
theorem dX11_image_1 : decode cX11_image 1 = .ok (.invokevirtual 274, 3) := by decide +kernel
theorem dX11_image_4 : decode cX11_image 4 = .ok (.ifCond .ne 5, 3) := by decide +kernel
theorem dX11_image_7 : decode cX11_image 7 = .ok (.iconst (-1), 1) := by decide +kernel
theorem dX11_image_8 : decode cX11_image 8 = .ok (.ireturn, 1) := by decide +kernel
theorem dX11_image_9 : decode cX11_image 9 = .ok (.aload_n 0, 1) := by decide +kernel
theorem dX11_image_10 : decode cX11_image 10 = .ok (.getfield 42, 3) := by decide +kernel
theorem dX11_image_13 : decode cX11_image 13 = .ok (.aload_n 0, 1) := by decide +kernel
theorem dX11_image_14 : decode cX11_image 14 = .ok (.getfield 92, 3) := by decide +kernel
theorem dX11_image_17 : decode cX11_image 17 = .ok (.iconst 0, 1) := by decide +kernel
theorem dX11_image_18 : decode cX11_image 18 = .ok (.invokevirtual 298, 3) := by decide +kernel
theorem dX11_image_21 : decode cX11_image 21 = .ok (.aload_n 0, 1) := by decide +kernel
theorem dX11_image_22 : decode cX11_image 22 = .ok (.getfield 65, 3) := by decide +kernel
theorem dX11_image_25 : decode cX11_image 25 = .ok (.invokevirtual 302, 3) := by decide +kernel
theorem dX11_image_28 : decode cX11_image 28 = .ok (.aload_n 0, 1) := by decide +kernel
theorem dX11_image_29 : decode cX11_image 29 = .ok (.iconst 1, 1) := by decide +kernel
theorem dX11_image_30 : decode cX11_image 30 = .ok (.putfield 147, 3) := by decide +kernel
theorem dX11_image_33 : decode cX11_image 33 = .ok (.aload_n 0, 1) := by decide +kernel
theorem dX11_image_34 : decode cX11_image 34 = .ok (.getfield 42, 3) := by decide +kernel
theorem dX11_image_37 : decode cX11_image 37 = .ok (.getfield 224, 3) := by decide +kernel
theorem dX11_image_40 : decode cX11_image 40 = .ok (.ireturn, 1) := by decide +kernel
theorem dX11_back_0 : decode cX11_back 0 = .ok (.aload_n 0, 1) := by decide +kernel
theorem dX11_back_1 : decode cX11_back 1 = .ok (.getfield 147, 3) := by decide +kernel
theorem dX11_back_4 : decode cX11_back 4 = .ok (.ifCond .ne 5, 3) := by decide +kernel
theorem dX11_back_7 : decode cX11_back 7 = .ok (.iconst (-1), 1) := by decide +kernel
theorem dX11_back_8 : decode cX11_back 8 = .ok (.ireturn, 1) := by decide +kernel
theorem dX11_back_9 : decode cX11_back 9 = .ok (.aload_n 0, 1) := by decide +kernel
theorem dX11_back_10 : decode cX11_back 10 = .ok (.getfield 42, 3) := by decide +kernel
theorem dX11_back_13 : decode cX11_back 13 = .ok (.aload_n 0, 1) := by decide +kernel
theorem dX11_back_14 : decode cX11_back 14 = .ok (.getfield 92, 3) := by decide +kernel
theorem dX11_back_17 : decode cX11_back 17 = .ok (.iconst 0, 1) := by decide +kernel
theorem dX11_back_18 : decode cX11_back 18 = .ok (.invokevirtual 305, 3) := by decide +kernel
theorem dX11_back_21 : decode cX11_back 21 = .ok (.aload_n 0, 1) := by decide +kernel
theorem dX11_back_22 : decode cX11_back 22 = .ok (.getfield 65, 3) := by decide +kernel
theorem dX11_back_25 : decode cX11_back 25 = .ok (.invokevirtual 308, 3) := by decide +kernel
theorem dX11_back_28 : decode cX11_back 28 = .ok (.aload_n 0, 1) := by decide +kernel
theorem dX11_back_29 : decode cX11_back 29 = .ok (.getfield 58, 3) := by decide +kernel
theorem dX11_back_32 : decode cX11_back 32 = .ok (.invokevirtual 142, 3) := by decide +kernel
theorem dX11_back_35 : decode cX11_back 35 = .ok (.aload_n 0, 1) := by decide +kernel
theorem dX11_back_36 : decode cX11_back 36 = .ok (.getfield 42, 3) := by decide +kernel
theorem dX11_back_39 : decode cX11_back 39 = .ok (.getfield 224, 3) := by decide +kernel
theorem dX11_back_42 : decode cX11_back 42 = .ok (.ireturn, 1) := by decide +kernel
theorem dX11_keeps_0 : decode cX11_keeps 0 = .ok (.aload_n 0, 1) := by decide +kernel
theorem dX11_keeps_1 : decode cX11_keeps 1 = .ok (.iload_n 1, 1) := by decide +kernel
theorem dX11_keeps_2 : decode cX11_keeps 2 = .ok (.invokevirtual 160, 3) := by decide +kernel
theorem dX11_keeps_5 : decode cX11_keeps 5 = .ok (.ifCond .eq 18, 3) := by decide +kernel
theorem dX11_keeps_8 : decode cX11_keeps 8 = .ok (.aload_n 0, 1) := by decide +kernel
theorem dX11_keeps_9 : decode cX11_keeps 9 = .ok (.iload_n 3, 1) := by decide +kernel
theorem dX11_keeps_10 : decode cX11_keeps 10 = .ok (.invokevirtual 160, 3) := by decide +kernel
theorem dX11_keeps_13 : decode cX11_keeps 13 = .ok (.ifCond .eq 10, 3) := by decide +kernel
theorem dX11_keeps_16 : decode cX11_keeps 16 = .ok (.iload_n 2, 1) := by decide +kernel
theorem dX11_keeps_17 : decode cX11_keeps 17 = .ok (.invokestatic 245, 3) := by decide +kernel
theorem dX11_keeps_20 : decode cX11_keeps 20 = .ok (.ifCond .ne 5, 3) := by decide +kernel
theorem dX11_keeps_23 : decode cX11_keeps 23 = .ok (.iconst (-1), 1) := by decide +kernel
theorem dX11_keeps_24 : decode cX11_keeps 24 = .ok (.ireturn, 1) := by decide +kernel
theorem dX11_keeps_25 : decode cX11_keeps 25 = .ok (.aload_n 0, 1) := by decide +kernel
theorem dX11_keeps_26 : decode cX11_keeps 26 = .ok (.getfield 51, 3) := by decide +kernel
theorem dX11_keeps_29 : decode cX11_keeps 29 = .ok (.aload_n 0, 1) := by decide +kernel
theorem dX11_keeps_30 : decode cX11_keeps 30 = .ok (.getfield 42, 3) := by decide +kernel
theorem dX11_keeps_33 : decode cX11_keeps 33 = .ok (.invokevirtual 185, 3) := by decide +kernel
theorem dX11_keeps_36 : decode cX11_keeps 36 = .ok (.iload_n 1, 1) := by decide +kernel
theorem dX11_keeps_37 : decode cX11_keeps 37 = .ok (.iload_n 2, 1) := by decide +kernel
theorem dX11_keeps_38 : decode cX11_keeps 38 = .ok (.invokevirtual 311, 3) := by decide +kernel
theorem dX11_keeps_41 : decode cX11_keeps 41 = .ok (.pop, 1) := by decide +kernel
theorem dX11_keeps_42 : decode cX11_keeps 42 = .ok (.aload_n 0, 1) := by decide +kernel
theorem dX11_keeps_43 : decode cX11_keeps 43 = .ok (.getfield 51, 3) := by decide +kernel
theorem dX11_keeps_46 : decode cX11_keeps 46 = .ok (.getfield 315, 3) := by decide +kernel
theorem dX11_keeps_49 : decode cX11_keeps 49 = .ok (.iload_n 3, 1) := by decide +kernel
theorem dX11_keeps_50 : decode cX11_keeps 50 = .ok (.iaload, 1) := by decide +kernel
theorem dX11_keeps_51 : decode cX11_keeps 51 = .ok (.ireturn, 1) := by decide +kernel
theorem dX11_burning_0 : decode cX11_burning 0 = .ok (.aload_n 0, 1) := by decide +kernel
theorem dX11_burning_1 : decode cX11_burning 1 = .ok (.iload_n 1, 1) := by decide +kernel
theorem dX11_burning_2 : decode cX11_burning 2 = .ok (.invokevirtual 160, 3) := by decide +kernel
theorem dX11_burning_5 : decode cX11_burning 5 = .ok (.ifCond .eq 29, 3) := by decide +kernel
theorem dX11_burning_8 : decode cX11_burning 8 = .ok (.iload_n 2, 1) := by decide +kernel
theorem dX11_burning_9 : decode cX11_burning 9 = .ok (.invokestatic 245, 3) := by decide +kernel
theorem dX11_burning_12 : decode cX11_burning 12 = .ok (.ifCond .eq 22, 3) := by decide +kernel
theorem dX11_burning_15 : decode cX11_burning 15 = .ok (.aload_n 0, 1) := by decide +kernel
theorem dX11_burning_16 : decode cX11_burning 16 = .ok (.getfield 51, 3) := by decide +kernel
theorem dX11_burning_19 : decode cX11_burning 19 = .ok (.aload_n 0, 1) := by decide +kernel
theorem dX11_burning_20 : decode cX11_burning 20 = .ok (.getfield 42, 3) := by decide +kernel
theorem dX11_burning_23 : decode cX11_burning 23 = .ok (.invokevirtual 185, 3) := by decide +kernel
theorem dX11_burning_26 : decode cX11_burning 26 = .ok (.iload_n 1, 1) := by decide +kernel
theorem dX11_burning_27 : decode cX11_burning 27 = .ok (.iload_n 2, 1) := by decide +kernel
theorem dX11_burning_28 : decode cX11_burning 28 = .ok (.invokevirtual 311, 3) := by decide +kernel
theorem dX11_burning_31 : decode cX11_burning 31 = .ok (.goto 4, 3) := by decide +kernel
theorem dX11_burning_34 : decode cX11_burning 34 = .ok (.iconst (-1), 1) := by decide +kernel
theorem dX11_burning_35 : decode cX11_burning 35 = .ok (.ireturn, 1) := by decide +kernel
theorem dX11_lost_0 : decode cX11_lost 0 = .ok (.aload_n 0, 1) := by decide +kernel
theorem dX11_lost_1 : decode cX11_lost 1 = .ok (.iload_n 1, 1) := by decide +kernel
theorem dX11_lost_2 : decode cX11_lost 2 = .ok (.invokevirtual 160, 3) := by decide +kernel
theorem dX11_lost_5 : decode cX11_lost 5 = .ok (.ifCond .eq 10, 3) := by decide +kernel
theorem dX11_lost_8 : decode cX11_lost 8 = .ok (.iload_n 2, 1) := by decide +kernel
theorem dX11_lost_9 : decode cX11_lost 9 = .ok (.invokestatic 245, 3) := by decide +kernel
theorem dX11_lost_12 : decode cX11_lost 12 = .ok (.ifCond .ne 5, 3) := by decide +kernel
theorem dX11_lost_15 : decode cX11_lost 15 = .ok (.iconst (-1), 1) := by decide +kernel
theorem dX11_lost_16 : decode cX11_lost 16 = .ok (.ireturn, 1) := by decide +kernel
theorem dX11_lost_17 : decode cX11_lost 17 = .ok (.aload_n 0, 1) := by decide +kernel
theorem dX11_lost_18 : decode cX11_lost 18 = .ok (.getfield 51, 3) := by decide +kernel
theorem dX11_lost_21 : decode cX11_lost 21 = .ok (.aload_n 0, 1) := by decide +kernel
theorem dX11_lost_22 : decode cX11_lost 22 = .ok (.getfield 42, 3) := by decide +kernel
theorem dX11_lost_25 : decode cX11_lost 25 = .ok (.invokevirtual 185, 3) := by decide +kernel
theorem dX11_lost_28 : decode cX11_lost 28 = .ok (.iload_n 1, 1) := by decide +kernel
theorem dX11_lost_29 : decode cX11_lost 29 = .ok (.iload_n 2, 1) := by decide +kernel
theorem dX11_lost_30 : decode cX11_lost 30 = .ok (.invokevirtual 311, 3) := by decide +kernel
theorem dX11_lost_33 : decode cX11_lost 33 = .ok (.pop, 1) := by decide +kernel
theorem dX11_lost_34 : decode cX11_lost 34 = .ok (.aload_n 0, 1) := by decide +kernel
theorem dX11_lost_35 : decode cX11_lost 35 = .ok (.getfield 51, 3) := by decide +kernel
theorem dX11_lost_38 : decode cX11_lost 38 = .ok (.getfield 318, 3) := by decide +kernel
theorem dX11_lost_41 : decode cX11_lost 41 = .ok (.ireturn, 1) := by decide +kernel
theorem dX11_marry_0 : decode cX11_marry 0 = .ok (.aload_n 0, 1) := by decide +kernel
theorem dX11_marry_1 : decode cX11_marry 1 = .ok (.iload_n 1, 1) := by decide +kernel
theorem dX11_marry_2 : decode cX11_marry 2 = .ok (.invokevirtual 160, 3) := by decide +kernel
theorem dX11_marry_5 : decode cX11_marry 5 = .ok (.ifCond .eq 17, 3) := by decide +kernel
theorem dX11_marry_8 : decode cX11_marry 8 = .ok (.iload_n 2, 1) := by decide +kernel
theorem dX11_marry_9 : decode cX11_marry 9 = .ok (.invokestatic 245, 3) := by decide +kernel
theorem dX11_marry_12 : decode cX11_marry 12 = .ok (.ifCond .eq 10, 3) := by decide +kernel
theorem dX11_marry_15 : decode cX11_marry 15 = .ok (.iload_n 3, 1) := by decide +kernel
theorem dX11_marry_16 : decode cX11_marry 16 = .ok (.invokestatic 121, 3) := by decide +kernel
theorem dX11_marry_19 : decode cX11_marry 19 = .ok (.ifCond .ne 5, 3) := by decide +kernel
theorem dX11_marry_22 : decode cX11_marry 22 = .ok (.iconst (-1), 1) := by decide +kernel
theorem dX11_marry_23 : decode cX11_marry 23 = .ok (.ireturn, 1) := by decide +kernel
theorem dX11_marry_24 : decode cX11_marry 24 = .ok (.bipush 9, 2) := by decide +kernel
theorem dX11_marry_26 : decode cX11_marry 26 = .ok (.istore 4, 2) := by decide +kernel
theorem dX11_marry_28 : decode cX11_marry 28 = .ok (.iconst (-1), 1) := by decide +kernel
theorem dX11_marry_29 : decode cX11_marry 29 = .ok (.istore 5, 2) := by decide +kernel
theorem dX11_marry_31 : decode cX11_marry 31 = .ok (.iconst 0, 1) := by decide +kernel
theorem dX11_marry_32 : decode cX11_marry 32 = .ok (.istore 6, 2) := by decide +kernel
theorem dX11_marry_34 : decode cX11_marry 34 = .ok (.iload 6, 2) := by decide +kernel
theorem dX11_marry_36 : decode cX11_marry 36 = .ok (.aload_n 0, 1) := by decide +kernel
theorem dX11_marry_37 : decode cX11_marry 37 = .ok (.getfield 42, 3) := by decide +kernel
theorem dX11_marry_40 : decode cX11_marry 40 = .ok (.getfield 154, 3) := by decide +kernel
theorem dX11_marry_43 : decode cX11_marry 43 = .ok (.if_icmp .ge 90, 3) := by decide +kernel
theorem dX11_marry_46 : decode cX11_marry 46 = .ok (.iload 6, 2) := by decide +kernel
theorem dX11_marry_48 : decode cX11_marry 48 = .ok (.iconst 1, 1) := by decide +kernel
theorem dX11_marry_49 : decode cX11_marry 49 = .ok (.iadd, 1) := by decide +kernel
theorem dX11_marry_50 : decode cX11_marry 50 = .ok (.istore 7, 2) := by decide +kernel
theorem dX11_marry_52 : decode cX11_marry 52 = .ok (.iload 7, 2) := by decide +kernel
theorem dX11_marry_54 : decode cX11_marry 54 = .ok (.aload_n 0, 1) := by decide +kernel
theorem dX11_marry_55 : decode cX11_marry 55 = .ok (.getfield 42, 3) := by decide +kernel
theorem dX11_marry_58 : decode cX11_marry 58 = .ok (.getfield 154, 3) := by decide +kernel
theorem dX11_marry_61 : decode cX11_marry 61 = .ok (.if_icmp .ge 66, 3) := by decide +kernel
theorem dX11_marry_64 : decode cX11_marry 64 = .ok (.aload_n 0, 1) := by decide +kernel
theorem dX11_marry_65 : decode cX11_marry 65 = .ok (.iload 6, 2) := by decide +kernel
theorem dX11_marry_67 : decode cX11_marry 67 = .ok (.iload 7, 2) := by decide +kernel
theorem dX11_marry_69 : decode cX11_marry 69 = .ok (.invokevirtual 321, 3) := by decide +kernel
theorem dX11_marry_72 : decode cX11_marry 72 = .ok (.ifCond .ne 6, 3) := by decide +kernel
theorem dX11_marry_75 : decode cX11_marry 75 = .ok (.goto 46, 3) := by decide +kernel
theorem dX11_marry_78 : decode cX11_marry 78 = .ok (.aload_n 0, 1) := by decide +kernel
theorem dX11_marry_79 : decode cX11_marry 79 = .ok (.getfield 51, 3) := by decide +kernel
theorem dX11_marry_82 : decode cX11_marry 82 = .ok (.aload_n 0, 1) := by decide +kernel
theorem dX11_marry_83 : decode cX11_marry 83 = .ok (.iload 6, 2) := by decide +kernel
theorem dX11_marry_85 : decode cX11_marry 85 = .ok (.iload 7, 2) := by decide +kernel
theorem dX11_marry_87 : decode cX11_marry 87 = .ok (.invokevirtual 324, 3) := by decide +kernel
theorem dX11_marry_90 : decode cX11_marry 90 = .ok (.iload_n 1, 1) := by decide +kernel
theorem dX11_marry_91 : decode cX11_marry 91 = .ok (.iload_n 2, 1) := by decide +kernel
theorem dX11_marry_92 : decode cX11_marry 92 = .ok (.invokevirtual 311, 3) := by decide +kernel
theorem dX11_marry_95 : decode cX11_marry 95 = .ok (.invokestatic 193, 3) := by decide +kernel
theorem dX11_marry_98 : decode cX11_marry 98 = .ok (.istore 8, 2) := by decide +kernel
theorem dX11_marry_100 : decode cX11_marry 100 = .ok (.iload 8, 2) := by decide +kernel
theorem dX11_marry_102 : decode cX11_marry 102 = .ok (.iload 4, 2) := by decide +kernel
theorem dX11_marry_104 : decode cX11_marry 104 = .ok (.if_icmp .ge 17, 3) := by decide +kernel
theorem dX11_marry_107 : decode cX11_marry 107 = .ok (.iload 8, 2) := by decide +kernel
theorem dX11_marry_109 : decode cX11_marry 109 = .ok (.istore 4, 2) := by decide +kernel
theorem dX11_marry_111 : decode cX11_marry 111 = .ok (.bipush 10, 2) := by decide +kernel
theorem dX11_marry_113 : decode cX11_marry 113 = .ok (.iload 6, 2) := by decide +kernel
theorem dX11_marry_115 : decode cX11_marry 115 = .ok (.imul, 1) := by decide +kernel
theorem dX11_marry_116 : decode cX11_marry 116 = .ok (.iload 7, 2) := by decide +kernel
theorem dX11_marry_118 : decode cX11_marry 118 = .ok (.iadd, 1) := by decide +kernel
theorem dX11_marry_119 : decode cX11_marry 119 = .ok (.istore 5, 2) := by decide +kernel
theorem dX11_marry_121 : decode cX11_marry 121 = .ok (.iinc 7 1, 3) := by decide +kernel
theorem dX11_marry_124 : decode cX11_marry 124 = .ok (.goto (-72), 3) := by decide +kernel
theorem dX11_marry_127 : decode cX11_marry 127 = .ok (.iinc 6 1, 3) := by decide +kernel
theorem dX11_marry_130 : decode cX11_marry 130 = .ok (.goto (-96), 3) := by decide +kernel
theorem dX11_marry_133 : decode cX11_marry 133 = .ok (.iload_n 3, 1) := by decide +kernel
theorem dX11_marry_134 : decode cX11_marry 134 = .ok (.ifCond .eq 9, 3) := by decide +kernel
theorem dX11_marry_137 : decode cX11_marry 137 = .ok (.iload 5, 2) := by decide +kernel
theorem dX11_marry_139 : decode cX11_marry 139 = .ok (.iconst (-1), 1) := by decide +kernel
theorem dX11_marry_140 : decode cX11_marry 140 = .ok (.if_icmp .ne 8, 3) := by decide +kernel
theorem dX11_marry_143 : decode cX11_marry 143 = .ok (.iload 5, 2) := by decide +kernel
theorem dX11_marry_145 : decode cX11_marry 145 = .ok (.goto 5, 3) := by decide +kernel
theorem dX11_marry_148 : decode cX11_marry 148 = .ok (.iload 4, 2) := by decide +kernel
theorem dX11_marry_150 : decode cX11_marry 150 = .ok (.ireturn, 1) := by decide +kernel
theorem dX11_parting_0 : decode cX11_parting 0 = .ok (.aload_n 0, 1) := by decide +kernel
theorem dX11_parting_1 : decode cX11_parting 1 = .ok (.iload_n 1, 1) := by decide +kernel
theorem dX11_parting_2 : decode cX11_parting 2 = .ok (.invokevirtual 160, 3) := by decide +kernel
theorem dX11_parting_5 : decode cX11_parting 5 = .ok (.ifCond .eq 17, 3) := by decide +kernel
theorem dX11_parting_8 : decode cX11_parting 8 = .ok (.iload_n 2, 1) := by decide +kernel
theorem dX11_parting_9 : decode cX11_parting 9 = .ok (.invokestatic 245, 3) := by decide +kernel
theorem dX11_parting_12 : decode cX11_parting 12 = .ok (.ifCond .eq 10, 3) := by decide +kernel
theorem dX11_parting_15 : decode cX11_parting 15 = .ok (.iload_n 3, 1) := by decide +kernel
theorem dX11_parting_16 : decode cX11_parting 16 = .ok (.invokestatic 121, 3) := by decide +kernel
theorem dX11_parting_19 : decode cX11_parting 19 = .ok (.ifCond .ne 5, 3) := by decide +kernel
theorem dX11_parting_22 : decode cX11_parting 22 = .ok (.iconst (-1), 1) := by decide +kernel
theorem dX11_parting_23 : decode cX11_parting 23 = .ok (.ireturn, 1) := by decide +kernel
theorem dX11_parting_24 : decode cX11_parting 24 = .ok (.aload_n 0, 1) := by decide +kernel
theorem dX11_parting_25 : decode cX11_parting 25 = .ok (.getfield 42, 3) := by decide +kernel
theorem dX11_parting_28 : decode cX11_parting 28 = .ok (.invokevirtual 185, 3) := by decide +kernel
theorem dX11_parting_31 : decode cX11_parting 31 = .ok (.istore 4, 2) := by decide +kernel
theorem dX11_parting_33 : decode cX11_parting 33 = .ok (.bipush 9, 2) := by decide +kernel
theorem dX11_parting_35 : decode cX11_parting 35 = .ok (.istore 5, 2) := by decide +kernel
theorem dX11_parting_37 : decode cX11_parting 37 = .ok (.iconst 0, 1) := by decide +kernel
theorem dX11_parting_38 : decode cX11_parting 38 = .ok (.istore 6, 2) := by decide +kernel
theorem dX11_parting_40 : decode cX11_parting 40 = .ok (.iconst 0, 1) := by decide +kernel
theorem dX11_parting_41 : decode cX11_parting 41 = .ok (.istore 7, 2) := by decide +kernel
theorem dX11_parting_43 : decode cX11_parting 43 = .ok (.iload 7, 2) := by decide +kernel
theorem dX11_parting_45 : decode cX11_parting 45 = .ok (.iconst 2, 1) := by decide +kernel
theorem dX11_parting_46 : decode cX11_parting 46 = .ok (.if_icmp .gt 98, 3) := by decide +kernel
theorem dX11_parting_49 : decode cX11_parting 49 = .ok (.aload_n 0, 1) := by decide +kernel
theorem dX11_parting_50 : decode cX11_parting 50 = .ok (.getfield 88, 3) := by decide +kernel
theorem dX11_parting_53 : decode cX11_parting 53 = .ok (.aload_n 0, 1) := by decide +kernel
theorem dX11_parting_54 : decode cX11_parting 54 = .ok (.getfield 42, 3) := by decide +kernel
theorem dX11_parting_57 : decode cX11_parting 57 = .ok (.invokevirtual 327, 3) := by decide +kernel
theorem dX11_parting_60 : decode cX11_parting 60 = .ok (.iload 7, 2) := by decide +kernel
theorem dX11_parting_62 : decode cX11_parting 62 = .ok (.invokevirtual 330, 3) := by decide +kernel
theorem dX11_parting_65 : decode cX11_parting 65 = .ok (.iconst 0, 1) := by decide +kernel
theorem dX11_parting_66 : decode cX11_parting 66 = .ok (.istore 8, 2) := by decide +kernel
theorem dX11_parting_68 : decode cX11_parting 68 = .ok (.iload 8, 2) := by decide +kernel
theorem dX11_parting_70 : decode cX11_parting 70 = .ok (.aload_n 0, 1) := by decide +kernel
theorem dX11_parting_71 : decode cX11_parting 71 = .ok (.getfield 88, 3) := by decide +kernel
theorem dX11_parting_74 : decode cX11_parting 74 = .ok (.getfield 333, 3) := by decide +kernel
theorem dX11_parting_77 : decode cX11_parting 77 = .ok (.if_icmp .ge 61, 3) := by decide +kernel
theorem dX11_parting_80 : decode cX11_parting 80 = .ok (.aload_n 0, 1) := by decide +kernel
theorem dX11_parting_81 : decode cX11_parting 81 = .ok (.getfield 51, 3) := by decide +kernel
theorem dX11_parting_84 : decode cX11_parting 84 = .ok (.iload 4, 2) := by decide +kernel
theorem dX11_parting_86 : decode cX11_parting 86 = .ok (.aload_n 0, 1) := by decide +kernel
theorem dX11_parting_87 : decode cX11_parting 87 = .ok (.getfield 88, 3) := by decide +kernel
theorem dX11_parting_90 : decode cX11_parting 90 = .ok (.getfield 336, 3) := by decide +kernel
theorem dX11_parting_93 : decode cX11_parting 93 = .ok (.iload 8, 2) := by decide +kernel
theorem dX11_parting_95 : decode cX11_parting 95 = .ok (.iaload, 1) := by decide +kernel
theorem dX11_parting_96 : decode cX11_parting 96 = .ok (.iconst (-1), 1) := by decide +kernel
theorem dX11_parting_97 : decode cX11_parting 97 = .ok (.ixor, 1) := by decide +kernel
theorem dX11_parting_98 : decode cX11_parting 98 = .ok (.iand, 1) := by decide +kernel
theorem dX11_parting_99 : decode cX11_parting 99 = .ok (.iload_n 1, 1) := by decide +kernel
theorem dX11_parting_100 : decode cX11_parting 100 = .ok (.iload_n 2, 1) := by decide +kernel
theorem dX11_parting_101 : decode cX11_parting 101 = .ok (.invokevirtual 311, 3) := by decide +kernel
theorem dX11_parting_104 : decode cX11_parting 104 = .ok (.invokestatic 193, 3) := by decide +kernel
theorem dX11_parting_107 : decode cX11_parting 107 = .ok (.istore 9, 2) := by decide +kernel
theorem dX11_parting_109 : decode cX11_parting 109 = .ok (.iload 9, 2) := by decide +kernel
theorem dX11_parting_111 : decode cX11_parting 111 = .ok (.iload 5, 2) := by decide +kernel
theorem dX11_parting_113 : decode cX11_parting 113 = .ok (.if_icmp .ge 19, 3) := by decide +kernel
theorem dX11_parting_116 : decode cX11_parting 116 = .ok (.iload 9, 2) := by decide +kernel
theorem dX11_parting_118 : decode cX11_parting 118 = .ok (.istore 5, 2) := by decide +kernel
theorem dX11_parting_120 : decode cX11_parting 120 = .ok (.aload_n 0, 1) := by decide +kernel
theorem dX11_parting_121 : decode cX11_parting 121 = .ok (.getfield 88, 3) := by decide +kernel
theorem dX11_parting_124 : decode cX11_parting 124 = .ok (.getfield 336, 3) := by decide +kernel
theorem dX11_parting_127 : decode cX11_parting 127 = .ok (.iload 8, 2) := by decide +kernel
theorem dX11_parting_129 : decode cX11_parting 129 = .ok (.iaload, 1) := by decide +kernel
theorem dX11_parting_130 : decode cX11_parting 130 = .ok (.istore 6, 2) := by decide +kernel
theorem dX11_parting_132 : decode cX11_parting 132 = .ok (.iinc 8 1, 3) := by decide +kernel
theorem dX11_parting_135 : decode cX11_parting 135 = .ok (.goto (-67), 3) := by decide +kernel
theorem dX11_parting_138 : decode cX11_parting 138 = .ok (.iinc 7 1, 3) := by decide +kernel
theorem dX11_parting_141 : decode cX11_parting 141 = .ok (.goto (-98), 3) := by decide +kernel
theorem dX11_parting_144 : decode cX11_parting 144 = .ok (.iload_n 3, 1) := by decide +kernel
theorem dX11_parting_145 : decode cX11_parting 145 = .ok (.ifCond .ne 8, 3) := by decide +kernel
theorem dX11_parting_148 : decode cX11_parting 148 = .ok (.iload 6, 2) := by decide +kernel
theorem dX11_parting_150 : decode cX11_parting 150 = .ok (.goto 5, 3) := by decide +kernel
theorem dX11_parting_153 : decode cX11_parting 153 = .ok (.iload 5, 2) := by decide +kernel
theorem dX11_parting_155 : decode cX11_parting 155 = .ok (.ireturn, 1) := by decide +kernel
theorem dX11_stands_0 : decode cX11_stands 0 = .ok (.aload_n 0, 1) := by decide +kernel
theorem dX11_stands_1 : decode cX11_stands 1 = .ok (.invokevirtual 274, 3) := by decide +kernel
theorem dX11_stands_4 : decode cX11_stands 4 = .ok (.ifCond .eq 10, 3) := by decide +kernel
theorem dX11_stands_7 : decode cX11_stands 7 = .ok (.iload_n 1, 1) := by decide +kernel
theorem dX11_stands_8 : decode cX11_stands 8 = .ok (.invokestatic 121, 3) := by decide +kernel
theorem dX11_stands_11 : decode cX11_stands 11 = .ok (.ifCond .ne 5, 3) := by decide +kernel
theorem dX11_stands_14 : decode cX11_stands 14 = .ok (.iconst (-1), 1) := by decide +kernel
theorem dX11_stands_15 : decode cX11_stands 15 = .ok (.ireturn, 1) := by decide +kernel
theorem dX11_stands_16 : decode cX11_stands 16 = .ok (.aload_n 0, 1) := by decide +kernel
theorem dX11_stands_17 : decode cX11_stands 17 = .ok (.invokevirtual 339, 3) := by decide +kernel
theorem dX11_stands_20 : decode cX11_stands 20 = .ok (.istore_n 2, 1) := by decide +kernel
theorem dX11_stands_21 : decode cX11_stands 21 = .ok (.iload_n 1, 1) := by decide +kernel
theorem dX11_stands_22 : decode cX11_stands 22 = .ok (.ifCond .ne 5, 3) := by decide +kernel
theorem dX11_stands_25 : decode cX11_stands 25 = .ok (.iload_n 2, 1) := by decide +kernel
theorem dX11_stands_26 : decode cX11_stands 26 = .ok (.ireturn, 1) := by decide +kernel
theorem dX11_stands_27 : decode cX11_stands 27 = .ok (.iload_n 2, 1) := by decide +kernel
theorem dX11_stands_28 : decode cX11_stands 28 = .ok (.sipush 999, 3) := by decide +kernel
theorem dX11_stands_31 : decode cX11_stands 31 = .ok (.if_icmp .ne 7, 3) := by decide +kernel
theorem dX11_stands_34 : decode cX11_stands 34 = .ok (.iconst (-1), 1) := by decide +kernel
theorem dX11_stands_35 : decode cX11_stands 35 = .ok (.goto 17, 3) := by decide +kernel
theorem dX11_stands_38 : decode cX11_stands 38 = .ok (.aload_n 0, 1) := by decide +kernel
theorem dX11_stands_39 : decode cX11_stands 39 = .ok (.aload_n 0, 1) := by decide +kernel
theorem dX11_stands_40 : decode cX11_stands 40 = .ok (.getfield 42, 3) := by decide +kernel
theorem dX11_stands_43 : decode cX11_stands 43 = .ok (.invokevirtual 185, 3) := by decide +kernel
theorem dX11_stands_46 : decode cX11_stands 46 = .ok (.iload_n 2, 1) := by decide +kernel
theorem dX11_stands_47 : decode cX11_stands 47 = .ok (.iconst 1, 1) := by decide +kernel
theorem dX11_stands_48 : decode cX11_stands 48 = .ok (.iadd, 1) := by decide +kernel
theorem dX11_stands_49 : decode cX11_stands 49 = .ok (.invokevirtual 342, 3) := by decide +kernel
theorem dX11_stands_52 : decode cX11_stands 52 = .ok (.ireturn, 1) := by decide +kernel
theorem dX11_earth_0 : decode cX11_earth 0 = .ok (.iconst 1, 1) := by decide +kernel
theorem dX11_earth_1 : decode cX11_earth 1 = .ok (.aload_n 0, 1) := by decide +kernel
theorem dX11_earth_2 : decode cX11_earth 2 = .ok (.getfield 42, 3) := by decide +kernel
theorem dX11_earth_5 : decode cX11_earth 5 = .ok (.getfield 154, 3) := by decide +kernel
theorem dX11_earth_8 : decode cX11_earth 8 = .ok (.ishl, 1) := by decide +kernel
theorem dX11_earth_9 : decode cX11_earth 9 = .ok (.iconst 1, 1) := by decide +kernel
theorem dX11_earth_10 : decode cX11_earth 10 = .ok (.isub, 1) := by decide +kernel
theorem dX11_earth_11 : decode cX11_earth 11 = .ok (.istore_n 1, 1) := by decide +kernel
theorem dX11_earth_12 : decode cX11_earth 12 = .ok (.aload_n 0, 1) := by decide +kernel
theorem dX11_earth_13 : decode cX11_earth 13 = .ok (.getfield 42, 3) := by decide +kernel
theorem dX11_earth_16 : decode cX11_earth 16 = .ok (.invokevirtual 345, 3) := by decide +kernel
theorem dX11_earth_19 : decode cX11_earth 19 = .ok (.iconst 1, 1) := by decide +kernel
theorem dX11_earth_20 : decode cX11_earth 20 = .ok (.iadd, 1) := by decide +kernel
theorem dX11_earth_21 : decode cX11_earth 21 = .ok (.istore_n 2, 1) := by decide +kernel
theorem dX11_earth_22 : decode cX11_earth 22 = .ok (.iload_n 2, 1) := by decide +kernel
theorem dX11_earth_23 : decode cX11_earth 23 = .ok (.sipush 999, 3) := by decide +kernel
theorem dX11_earth_26 : decode cX11_earth 26 = .ok (.if_icmp .gt 48, 3) := by decide +kernel
theorem dX11_earth_29 : decode cX11_earth 29 = .ok (.iload_n 1, 1) := by decide +kernel
theorem dX11_earth_30 : decode cX11_earth 30 = .ok (.ifCond .eq 44, 3) := by decide +kernel
theorem dX11_earth_33 : decode cX11_earth 33 = .ok (.aload_n 0, 1) := by decide +kernel
theorem dX11_earth_34 : decode cX11_earth 34 = .ok (.getfield 35, 3) := by decide +kernel
theorem dX11_earth_37 : decode cX11_earth 37 = .ok (.invokevirtual 348, 3) := by decide +kernel
theorem dX11_earth_40 : decode cX11_earth 40 = .ok (.ifCond .eq 12, 3) := by decide +kernel
theorem dX11_earth_43 : decode cX11_earth 43 = .ok (.aload_n 0, 1) := by decide +kernel
theorem dX11_earth_44 : decode cX11_earth 44 = .ok (.iload_n 1, 1) := by decide +kernel
theorem dX11_earth_45 : decode cX11_earth 45 = .ok (.iload_n 2, 1) := by decide +kernel
theorem dX11_earth_46 : decode cX11_earth 46 = .ok (.invokevirtual 351, 3) := by decide +kernel
theorem dX11_earth_49 : decode cX11_earth 49 = .ok (.goto 9, 3) := by decide +kernel
theorem dX11_earth_52 : decode cX11_earth 52 = .ok (.aload_n 0, 1) := by decide +kernel
theorem dX11_earth_53 : decode cX11_earth 53 = .ok (.iload_n 1, 1) := by decide +kernel
theorem dX11_earth_54 : decode cX11_earth 54 = .ok (.iload_n 2, 1) := by decide +kernel
theorem dX11_earth_55 : decode cX11_earth 55 = .ok (.invokevirtual 354, 3) := by decide +kernel
theorem dX11_earth_58 : decode cX11_earth 58 = .ok (.istore_n 3, 1) := by decide +kernel
theorem dX11_earth_59 : decode cX11_earth 59 = .ok (.iload_n 3, 1) := by decide +kernel
theorem dX11_earth_60 : decode cX11_earth 60 = .ok (.ifCond .ne 6, 3) := by decide +kernel
theorem dX11_earth_63 : decode cX11_earth 63 = .ok (.goto 11, 3) := by decide +kernel
theorem dX11_earth_66 : decode cX11_earth 66 = .ok (.iload_n 3, 1) := by decide +kernel
theorem dX11_earth_67 : decode cX11_earth 67 = .ok (.istore_n 1, 1) := by decide +kernel
theorem dX11_earth_68 : decode cX11_earth 68 = .ok (.iinc 2 1, 3) := by decide +kernel
theorem dX11_earth_71 : decode cX11_earth 71 = .ok (.goto (-49), 3) := by decide +kernel
theorem dX11_earth_74 : decode cX11_earth 74 = .ok (.aload_n 0, 1) := by decide +kernel
theorem dX11_earth_75 : decode cX11_earth 75 = .ok (.iload_n 1, 1) := by decide +kernel
theorem dX11_earth_76 : decode cX11_earth 76 = .ok (.invokevirtual 357, 3) := by decide +kernel
theorem dX11_earth_79 : decode cX11_earth 79 = .ok (.ireturn, 1) := by decide +kernel
theorem dX11_couples_0 : decode cX11_couples 0 = .ok (.aload_n 0, 1) := by decide +kernel
theorem dX11_couples_1 : decode cX11_couples 1 = .ok (.invokevirtual 274, 3) := by decide +kernel
theorem dX11_couples_4 : decode cX11_couples 4 = .ok (.ifCond .eq 20, 3) := by decide +kernel
theorem dX11_couples_7 : decode cX11_couples 7 = .ok (.iload_n 1, 1) := by decide +kernel
theorem dX11_couples_8 : decode cX11_couples 8 = .ok (.invokestatic 121, 3) := by decide +kernel
theorem dX11_couples_11 : decode cX11_couples 11 = .ok (.ifCond .eq 13, 3) := by decide +kernel
theorem dX11_couples_14 : decode cX11_couples 14 = .ok (.aload_n 0, 1) := by decide +kernel
theorem dX11_couples_15 : decode cX11_couples 15 = .ok (.getfield 81, 3) := by decide +kernel
theorem dX11_couples_18 : decode cX11_couples 18 = .ok (.invokevirtual 360, 3) := by decide +kernel
theorem dX11_couples_21 : decode cX11_couples 21 = .ok (.ifCond .ne 5, 3) := by decide +kernel
theorem dX11_couples_24 : decode cX11_couples 24 = .ok (.iconst (-1), 1) := by decide +kernel
theorem dX11_couples_25 : decode cX11_couples 25 = .ok (.ireturn, 1) := by decide +kernel
theorem dX11_couples_26 : decode cX11_couples 26 = .ok (.iload_n 1, 1) := by decide +kernel
theorem dX11_couples_27 : decode cX11_couples 27 = .ok (.ifCond .ne 13, 3) := by decide +kernel
theorem dX11_couples_30 : decode cX11_couples 30 = .ok (.aload_n 0, 1) := by decide +kernel
theorem dX11_couples_31 : decode cX11_couples 31 = .ok (.getfield 81, 3) := by decide +kernel
theorem dX11_couples_34 : decode cX11_couples 34 = .ok (.getfield 363, 3) := by decide +kernel
theorem dX11_couples_37 : decode cX11_couples 37 = .ok (.goto 10, 3) := by decide +kernel
theorem dX11_couples_40 : decode cX11_couples 40 = .ok (.aload_n 0, 1) := by decide +kernel
theorem dX11_couples_41 : decode cX11_couples 41 = .ok (.getfield 81, 3) := by decide +kernel
theorem dX11_couples_44 : decode cX11_couples 44 = .ok (.getfield 366, 3) := by decide +kernel
theorem dX11_couples_47 : decode cX11_couples 47 = .ok (.ireturn, 1) := by decide +kernel
theorem dX11_single_0 : decode cX11_single 0 = .ok (.aload_n 0, 1) := by decide +kernel
theorem dX11_single_1 : decode cX11_single 1 = .ok (.invokevirtual 274, 3) := by decide +kernel
theorem dX11_single_4 : decode cX11_single 4 = .ok (.ifCond .ne 5, 3) := by decide +kernel
theorem dX11_single_7 : decode cX11_single 7 = .ok (.iconst (-1), 1) := by decide +kernel
theorem dX11_single_8 : decode cX11_single 8 = .ok (.ireturn, 1) := by decide +kernel
theorem dX11_single_9 : decode cX11_single 9 = .ok (.aload_n 0, 1) := by decide +kernel
theorem dX11_single_10 : decode cX11_single 10 = .ok (.getfield 42, 3) := by decide +kernel
theorem dX11_single_13 : decode cX11_single 13 = .ok (.invokevirtual 185, 3) := by decide +kernel
theorem dX11_single_16 : decode cX11_single 16 = .ok (.istore_n 1, 1) := by decide +kernel
theorem dX11_single_17 : decode cX11_single 17 = .ok (.iconst 0, 1) := by decide +kernel
theorem dX11_single_18 : decode cX11_single 18 = .ok (.istore_n 2, 1) := by decide +kernel
theorem dX11_single_19 : decode cX11_single 19 = .ok (.iconst 0, 1) := by decide +kernel
theorem dX11_single_20 : decode cX11_single 20 = .ok (.istore_n 3, 1) := by decide +kernel
theorem dX11_single_21 : decode cX11_single 21 = .ok (.iload_n 3, 1) := by decide +kernel
theorem dX11_single_22 : decode cX11_single 22 = .ok (.aload_n 0, 1) := by decide +kernel
theorem dX11_single_23 : decode cX11_single 23 = .ok (.getfield 42, 3) := by decide +kernel
theorem dX11_single_26 : decode cX11_single 26 = .ok (.getfield 154, 3) := by decide +kernel
theorem dX11_single_29 : decode cX11_single 29 = .ok (.if_icmp .ge 27, 3) := by decide +kernel
theorem dX11_single_32 : decode cX11_single 32 = .ok (.aload_n 0, 1) := by decide +kernel
theorem dX11_single_33 : decode cX11_single 33 = .ok (.getfield 42, 3) := by decide +kernel
theorem dX11_single_36 : decode cX11_single 36 = .ok (.iload_n 1, 1) := by decide +kernel
theorem dX11_single_37 : decode cX11_single 37 = .ok (.iload_n 3, 1) := by decide +kernel
theorem dX11_single_38 : decode cX11_single 38 = .ok (.invokevirtual 189, 3) := by decide +kernel
theorem dX11_single_41 : decode cX11_single 41 = .ok (.ifCond .ne 9, 3) := by decide +kernel
theorem dX11_single_44 : decode cX11_single 44 = .ok (.iload_n 2, 1) := by decide +kernel
theorem dX11_single_45 : decode cX11_single 45 = .ok (.iconst 1, 1) := by decide +kernel
theorem dX11_single_46 : decode cX11_single 46 = .ok (.iload_n 3, 1) := by decide +kernel
theorem dX11_single_47 : decode cX11_single 47 = .ok (.ishl, 1) := by decide +kernel
theorem dX11_single_48 : decode cX11_single 48 = .ok (.ior, 1) := by decide +kernel
theorem dX11_single_49 : decode cX11_single 49 = .ok (.istore_n 2, 1) := by decide +kernel
theorem dX11_single_50 : decode cX11_single 50 = .ok (.iinc 3 1, 3) := by decide +kernel
theorem dX11_single_53 : decode cX11_single 53 = .ok (.goto (-32), 3) := by decide +kernel
theorem dX11_single_56 : decode cX11_single 56 = .ok (.iload_n 2, 1) := by decide +kernel
theorem dX11_single_57 : decode cX11_single 57 = .ok (.ireturn, 1) := by decide +kernel
theorem dX11_town_0 : decode cX11_town 0 = .ok (.aload_n 0, 1) := by decide +kernel
theorem dX11_town_1 : decode cX11_town 1 = .ok (.iload_n 1, 1) := by decide +kernel
theorem dX11_town_2 : decode cX11_town 2 = .ok (.invokevirtual 160, 3) := by decide +kernel
theorem dX11_town_5 : decode cX11_town 5 = .ok (.ifCond .eq 21, 3) := by decide +kernel
theorem dX11_town_8 : decode cX11_town 8 = .ok (.aload_n 0, 1) := by decide +kernel
theorem dX11_town_9 : decode cX11_town 9 = .ok (.getfield 42, 3) := by decide +kernel
theorem dX11_town_12 : decode cX11_town 12 = .ok (.aload_n 0, 1) := by decide +kernel
theorem dX11_town_13 : decode cX11_town 13 = .ok (.getfield 42, 3) := by decide +kernel
theorem dX11_town_16 : decode cX11_town 16 = .ok (.invokevirtual 185, 3) := by decide +kernel
theorem dX11_town_19 : decode cX11_town 19 = .ok (.iload_n 1, 1) := by decide +kernel
theorem dX11_town_20 : decode cX11_town 20 = .ok (.invokevirtual 369, 3) := by decide +kernel
theorem dX11_town_23 : decode cX11_town 23 = .ok (.goto 4, 3) := by decide +kernel
theorem dX11_town_26 : decode cX11_town 26 = .ok (.iconst (-1), 1) := by decide +kernel
theorem dX11_town_27 : decode cX11_town 27 = .ok (.ireturn, 1) := by decide +kernel
theorem dX11_net_0 : decode cX11_net 0 = .ok (.aload_n 0, 1) := by decide +kernel
theorem dX11_net_1 : decode cX11_net 1 = .ok (.invokevirtual 274, 3) := by decide +kernel
theorem dX11_net_4 : decode cX11_net 4 = .ok (.ifCond .eq 10, 3) := by decide +kernel
theorem dX11_net_7 : decode cX11_net 7 = .ok (.iload_n 1, 1) := by decide +kernel
theorem dX11_net_8 : decode cX11_net 8 = .ok (.invokestatic 121, 3) := by decide +kernel
theorem dX11_net_11 : decode cX11_net 11 = .ok (.ifCond .ne 5, 3) := by decide +kernel
theorem dX11_net_14 : decode cX11_net 14 = .ok (.iconst (-1), 1) := by decide +kernel
theorem dX11_net_15 : decode cX11_net 15 = .ok (.ireturn, 1) := by decide +kernel
theorem dX11_net_16 : decode cX11_net 16 = .ok (.iload_n 1, 1) := by decide +kernel
theorem dX11_net_17 : decode cX11_net 17 = .ok (.ifCond .ne 10, 3) := by decide +kernel
theorem dX11_net_20 : decode cX11_net 20 = .ok (.aload_n 0, 1) := by decide +kernel
theorem dX11_net_21 : decode cX11_net 21 = .ok (.invokevirtual 372, 3) := by decide +kernel
theorem dX11_net_24 : decode cX11_net 24 = .ok (.goto 7, 3) := by decide +kernel
theorem dX11_net_27 : decode cX11_net 27 = .ok (.aload_n 0, 1) := by decide +kernel
theorem dX11_net_28 : decode cX11_net 28 = .ok (.invokevirtual 375, 3) := by decide +kernel
theorem dX11_net_31 : decode cX11_net 31 = .ok (.ireturn, 1) := by decide +kernel
theorem dX11_far_0 : decode cX11_far 0 = .ok (.aload_n 0, 1) := by decide +kernel
theorem dX11_far_1 : decode cX11_far 1 = .ok (.iload_n 1, 1) := by decide +kernel
theorem dX11_far_2 : decode cX11_far 2 = .ok (.invokevirtual 160, 3) := by decide +kernel
theorem dX11_far_5 : decode cX11_far 5 = .ok (.ifCond .eq 23, 3) := by decide +kernel
theorem dX11_far_8 : decode cX11_far 8 = .ok (.aload_n 0, 1) := by decide +kernel
theorem dX11_far_9 : decode cX11_far 9 = .ok (.iload_n 2, 1) := by decide +kernel
theorem dX11_far_10 : decode cX11_far 10 = .ok (.invokevirtual 160, 3) := by decide +kernel
theorem dX11_far_13 : decode cX11_far 13 = .ok (.ifCond .eq 15, 3) := by decide +kernel
theorem dX11_far_16 : decode cX11_far 16 = .ok (.aload_n 0, 1) := by decide +kernel
theorem dX11_far_17 : decode cX11_far 17 = .ok (.getfield 42, 3) := by decide +kernel
theorem dX11_far_20 : decode cX11_far 20 = .ok (.iload_n 1, 1) := by decide +kernel
theorem dX11_far_21 : decode cX11_far 21 = .ok (.iload_n 2, 1) := by decide +kernel
theorem dX11_far_22 : decode cX11_far 22 = .ok (.invokevirtual 378, 3) := by decide +kernel
theorem dX11_far_25 : decode cX11_far 25 = .ok (.goto 4, 3) := by decide +kernel
theorem dX11_far_28 : decode cX11_far 28 = .ok (.iconst (-1), 1) := by decide +kernel
theorem dX11_far_29 : decode cX11_far 29 = .ok (.ireturn, 1) := by decide +kernel
theorem dX11_most_0 : decode cX11_most 0 = .ok (.aload_n 0, 1) := by decide +kernel
theorem dX11_most_1 : decode cX11_most 1 = .ok (.invokevirtual 274, 3) := by decide +kernel
theorem dX11_most_4 : decode cX11_most 4 = .ok (.ifCond .ne 5, 3) := by decide +kernel
theorem dX11_most_7 : decode cX11_most 7 = .ok (.iconst (-1), 1) := by decide +kernel
theorem dX11_most_8 : decode cX11_most 8 = .ok (.ireturn, 1) := by decide +kernel
theorem dX11_most_9 : decode cX11_most 9 = .ok (.iload_n 1, 1) := by decide +kernel
theorem dX11_most_10 : decode cX11_most 10 = .ok (.tableswitch 71 0 2 #[26, 41, 56], 26) := by decide +kernel
theorem dX11_most_36 : decode cX11_most 36 = .ok (.aload_n 0, 1) := by decide +kernel
theorem dX11_most_37 : decode cX11_most 37 = .ok (.getfield 42, 3) := by decide +kernel
theorem dX11_most_40 : decode cX11_most 40 = .ok (.aload_n 0, 1) := by decide +kernel
theorem dX11_most_41 : decode cX11_most 41 = .ok (.getfield 42, 3) := by decide +kernel
theorem dX11_most_44 : decode cX11_most 44 = .ok (.getfield 173, 3) := by decide +kernel
theorem dX11_most_47 : decode cX11_most 47 = .ok (.invokevirtual 381, 3) := by decide +kernel
theorem dX11_most_50 : decode cX11_most 50 = .ok (.ireturn, 1) := by decide +kernel
theorem dX11_most_51 : decode cX11_most 51 = .ok (.aload_n 0, 1) := by decide +kernel
theorem dX11_most_52 : decode cX11_most 52 = .ok (.getfield 42, 3) := by decide +kernel
theorem dX11_most_55 : decode cX11_most 55 = .ok (.aload_n 0, 1) := by decide +kernel
theorem dX11_most_56 : decode cX11_most 56 = .ok (.getfield 42, 3) := by decide +kernel
theorem dX11_most_59 : decode cX11_most 59 = .ok (.getfield 182, 3) := by decide +kernel
theorem dX11_most_62 : decode cX11_most 62 = .ok (.invokevirtual 381, 3) := by decide +kernel
theorem dX11_most_65 : decode cX11_most 65 = .ok (.ireturn, 1) := by decide +kernel
theorem dX11_most_66 : decode cX11_most 66 = .ok (.aload_n 0, 1) := by decide +kernel
theorem dX11_most_67 : decode cX11_most 67 = .ok (.getfield 42, 3) := by decide +kernel
theorem dX11_most_70 : decode cX11_most 70 = .ok (.aload_n 0, 1) := by decide +kernel
theorem dX11_most_71 : decode cX11_most 71 = .ok (.getfield 42, 3) := by decide +kernel
theorem dX11_most_74 : decode cX11_most 74 = .ok (.invokevirtual 185, 3) := by decide +kernel
theorem dX11_most_77 : decode cX11_most 77 = .ok (.invokevirtual 385, 3) := by decide +kernel
theorem dX11_most_80 : decode cX11_most 80 = .ok (.ireturn, 1) := by decide +kernel
theorem dX11_most_81 : decode cX11_most 81 = .ok (.iconst (-1), 1) := by decide +kernel
theorem dX11_most_82 : decode cX11_most 82 = .ok (.ireturn, 1) := by decide +kernel
theorem dX11_game_0 : decode cX11_game 0 = .ok (.aload_n 0, 1) := by decide +kernel
theorem dX11_game_1 : decode cX11_game 1 = .ok (.iload_n 1, 1) := by decide +kernel
theorem dX11_game_2 : decode cX11_game 2 = .ok (.iload_n 2, 1) := by decide +kernel
theorem dX11_game_3 : decode cX11_game 3 = .ok (.iload_n 3, 1) := by decide +kernel
theorem dX11_game_4 : decode cX11_game 4 = .ok (.invokevirtual 388, 3) := by decide +kernel
theorem dX11_game_7 : decode cX11_game 7 = .ok (.ifCond .eq 27, 3) := by decide +kernel
theorem dX11_game_10 : decode cX11_game 10 = .ok (.iload 4, 2) := by decide +kernel
theorem dX11_game_12 : decode cX11_game 12 = .ok (.invokestatic 121, 3) := by decide +kernel
theorem dX11_game_15 : decode cX11_game 15 = .ok (.ifCond .eq 19, 3) := by decide +kernel
theorem dX11_game_18 : decode cX11_game 18 = .ok (.iload 5, 2) := by decide +kernel
theorem dX11_game_20 : decode cX11_game 20 = .ok (.invokestatic 121, 3) := by decide +kernel
theorem dX11_game_23 : decode cX11_game 23 = .ok (.ifCond .eq 11, 3) := by decide +kernel
theorem dX11_game_26 : decode cX11_game 26 = .ok (.iload 6, 2) := by decide +kernel
theorem dX11_game_28 : decode cX11_game 28 = .ok (.invokestatic 121, 3) := by decide +kernel
theorem dX11_game_31 : decode cX11_game 31 = .ok (.ifCond .ne 6, 3) := by decide +kernel
theorem dX11_game_34 : decode cX11_game 34 = .ok (.ldc 241, 2) := by decide +kernel
theorem dX11_game_36 : decode cX11_game 36 = .ok (.ireturn, 1) := by decide +kernel
theorem dX11_game_37 : decode cX11_game 37 = .ok (.iload 6, 2) := by decide +kernel
theorem dX11_game_39 : decode cX11_game 39 = .ok (.ifCond .ne 18, 3) := by decide +kernel
theorem dX11_game_42 : decode cX11_game 42 = .ok (.aload_n 0, 1) := by decide +kernel
theorem dX11_game_43 : decode cX11_game 43 = .ok (.iload_n 1, 1) := by decide +kernel
theorem dX11_game_44 : decode cX11_game 44 = .ok (.iload_n 2, 1) := by decide +kernel
theorem dX11_game_45 : decode cX11_game 45 = .ok (.iload_n 3, 1) := by decide +kernel
theorem dX11_game_46 : decode cX11_game 46 = .ok (.iload 4, 2) := by decide +kernel
theorem dX11_game_48 : decode cX11_game 48 = .ok (.iload 5, 2) := by decide +kernel
theorem dX11_game_50 : decode cX11_game 50 = .ok (.iand, 1) := by decide +kernel
theorem dX11_game_51 : decode cX11_game 51 = .ok (.invokevirtual 392, 3) := by decide +kernel
theorem dX11_game_54 : decode cX11_game 54 = .ok (.goto 15, 3) := by decide +kernel
theorem dX11_game_57 : decode cX11_game 57 = .ok (.aload_n 0, 1) := by decide +kernel
theorem dX11_game_58 : decode cX11_game 58 = .ok (.iload_n 2, 1) := by decide +kernel
theorem dX11_game_59 : decode cX11_game 59 = .ok (.iload_n 1, 1) := by decide +kernel
theorem dX11_game_60 : decode cX11_game 60 = .ok (.iload_n 3, 1) := by decide +kernel
theorem dX11_game_61 : decode cX11_game 61 = .ok (.iload 4, 2) := by decide +kernel
theorem dX11_game_63 : decode cX11_game 63 = .ok (.iload 5, 2) := by decide +kernel
theorem dX11_game_65 : decode cX11_game 65 = .ok (.iand, 1) := by decide +kernel
theorem dX11_game_66 : decode cX11_game 66 = .ok (.invokevirtual 392, 3) := by decide +kernel
theorem dX11_game_69 : decode cX11_game 69 = .ok (.ireturn, 1) := by decide +kernel
theorem dX11_rests_0 : decode cX11_rests 0 = .ok (.aload_n 0, 1) := by decide +kernel
theorem dX11_rests_1 : decode cX11_rests 1 = .ok (.iload_n 1, 1) := by decide +kernel
theorem dX11_rests_2 : decode cX11_rests 2 = .ok (.iload_n 2, 1) := by decide +kernel
theorem dX11_rests_3 : decode cX11_rests 3 = .ok (.iload_n 3, 1) := by decide +kernel
theorem dX11_rests_4 : decode cX11_rests 4 = .ok (.invokevirtual 388, 3) := by decide +kernel
theorem dX11_rests_7 : decode cX11_rests 7 = .ok (.ifCond .eq 9, 3) := by decide +kernel
theorem dX11_rests_10 : decode cX11_rests 10 = .ok (.iload 4, 2) := by decide +kernel
theorem dX11_rests_12 : decode cX11_rests 12 = .ok (.iconst (-1), 1) := by decide +kernel
theorem dX11_rests_13 : decode cX11_rests 13 = .ok (.if_icmp .ge 5, 3) := by decide +kernel
theorem dX11_rests_16 : decode cX11_rests 16 = .ok (.iconst (-1), 1) := by decide +kernel
theorem dX11_rests_17 : decode cX11_rests 17 = .ok (.ireturn, 1) := by decide +kernel
theorem dX11_rests_18 : decode cX11_rests 18 = .ok (.iconst 0, 1) := by decide +kernel
theorem dX11_rests_19 : decode cX11_rests 19 = .ok (.istore 5, 2) := by decide +kernel
theorem dX11_rests_21 : decode cX11_rests 21 = .ok (.iconst 0, 1) := by decide +kernel
theorem dX11_rests_22 : decode cX11_rests 22 = .ok (.istore 6, 2) := by decide +kernel
theorem dX11_rests_24 : decode cX11_rests 24 = .ok (.iload 6, 2) := by decide +kernel
theorem dX11_rests_26 : decode cX11_rests 26 = .ok (.iconst 4, 1) := by decide +kernel
theorem dX11_rests_27 : decode cX11_rests 27 = .ok (.if_icmp .ge 57, 3) := by decide +kernel
theorem dX11_rests_30 : decode cX11_rests 30 = .ok (.iload 6, 2) := by decide +kernel
theorem dX11_rests_32 : decode cX11_rests 32 = .ok (.iconst 1, 1) := by decide +kernel
theorem dX11_rests_33 : decode cX11_rests 33 = .ok (.ishr, 1) := by decide +kernel
theorem dX11_rests_34 : decode cX11_rests 34 = .ok (.istore 7, 2) := by decide +kernel
theorem dX11_rests_36 : decode cX11_rests 36 = .ok (.iload 6, 2) := by decide +kernel
theorem dX11_rests_38 : decode cX11_rests 38 = .ok (.iconst 1, 1) := by decide +kernel
theorem dX11_rests_39 : decode cX11_rests 39 = .ok (.iand, 1) := by decide +kernel
theorem dX11_rests_40 : decode cX11_rests 40 = .ok (.istore 8, 2) := by decide +kernel
theorem dX11_rests_42 : decode cX11_rests 42 = .ok (.aload_n 0, 1) := by decide +kernel
theorem dX11_rests_43 : decode cX11_rests 43 = .ok (.iload_n 1, 1) := by decide +kernel
theorem dX11_rests_44 : decode cX11_rests 44 = .ok (.iload_n 2, 1) := by decide +kernel
theorem dX11_rests_45 : decode cX11_rests 45 = .ok (.iload_n 3, 1) := by decide +kernel
theorem dX11_rests_46 : decode cX11_rests 46 = .ok (.iload 7, 2) := by decide +kernel
theorem dX11_rests_48 : decode cX11_rests 48 = .ok (.iload 8, 2) := by decide +kernel
theorem dX11_rests_50 : decode cX11_rests 50 = .ok (.invokevirtual 396, 3) := by decide +kernel
theorem dX11_rests_53 : decode cX11_rests 53 = .ok (.ifCond .ne 6, 3) := by decide +kernel
theorem dX11_rests_56 : decode cX11_rests 56 = .ok (.goto 22, 3) := by decide +kernel
theorem dX11_rests_59 : decode cX11_rests 59 = .ok (.iload 5, 2) := by decide +kernel
theorem dX11_rests_61 : decode cX11_rests 61 = .ok (.iload 4, 2) := by decide +kernel
theorem dX11_rests_63 : decode cX11_rests 63 = .ok (.if_icmp .ne 12, 3) := by decide +kernel
theorem dX11_rests_66 : decode cX11_rests 66 = .ok (.bipush 10, 2) := by decide +kernel
theorem dX11_rests_68 : decode cX11_rests 68 = .ok (.iload 7, 2) := by decide +kernel
theorem dX11_rests_70 : decode cX11_rests 70 = .ok (.imul, 1) := by decide +kernel
theorem dX11_rests_71 : decode cX11_rests 71 = .ok (.iload 8, 2) := by decide +kernel
theorem dX11_rests_73 : decode cX11_rests 73 = .ok (.iadd, 1) := by decide +kernel
theorem dX11_rests_74 : decode cX11_rests 74 = .ok (.ireturn, 1) := by decide +kernel
theorem dX11_rests_75 : decode cX11_rests 75 = .ok (.iinc 5 1, 3) := by decide +kernel
theorem dX11_rests_78 : decode cX11_rests 78 = .ok (.iinc 6 1, 3) := by decide +kernel
theorem dX11_rests_81 : decode cX11_rests 81 = .ok (.goto (-57), 3) := by decide +kernel
theorem dX11_rests_84 : decode cX11_rests 84 = .ok (.iload 4, 2) := by decide +kernel
theorem dX11_rests_86 : decode cX11_rests 86 = .ok (.iconst (-1), 1) := by decide +kernel
theorem dX11_rests_87 : decode cX11_rests 87 = .ok (.if_icmp .ne 8, 3) := by decide +kernel
theorem dX11_rests_90 : decode cX11_rests 90 = .ok (.iload 5, 2) := by decide +kernel
theorem dX11_rests_92 : decode cX11_rests 92 = .ok (.goto 4, 3) := by decide +kernel
theorem dX11_rests_95 : decode cX11_rests 95 = .ok (.iconst (-1), 1) := by decide +kernel
theorem dX11_rests_96 : decode cX11_rests 96 = .ok (.ireturn, 1) := by decide +kernel
theorem dX11_leaves_0 : decode cX11_leaves 0 = .ok (.aload_n 0, 1) := by decide +kernel
theorem dX11_leaves_1 : decode cX11_leaves 1 = .ok (.invokevirtual 274, 3) := by decide +kernel
theorem dX11_leaves_4 : decode cX11_leaves 4 = .ok (.ifCond .eq 10, 3) := by decide +kernel
theorem dX11_leaves_7 : decode cX11_leaves 7 = .ok (.iload_n 1, 1) := by decide +kernel
theorem dX11_leaves_8 : decode cX11_leaves 8 = .ok (.invokestatic 245, 3) := by decide +kernel
theorem dX11_leaves_11 : decode cX11_leaves 11 = .ok (.ifCond .ne 5, 3) := by decide +kernel
theorem dX11_leaves_14 : decode cX11_leaves 14 = .ok (.iconst (-1), 1) := by decide +kernel
theorem dX11_leaves_15 : decode cX11_leaves 15 = .ok (.ireturn, 1) := by decide +kernel
theorem dX11_leaves_16 : decode cX11_leaves 16 = .ok (.aload_n 0, 1) := by decide +kernel
theorem dX11_leaves_17 : decode cX11_leaves 17 = .ok (.getfield 42, 3) := by decide +kernel
theorem dX11_leaves_20 : decode cX11_leaves 20 = .ok (.invokevirtual 185, 3) := by decide +kernel
theorem dX11_leaves_23 : decode cX11_leaves 23 = .ok (.istore_n 2, 1) := by decide +kernel
theorem dX11_leaves_24 : decode cX11_leaves 24 = .ok (.iconst 0, 1) := by decide +kernel
theorem dX11_leaves_25 : decode cX11_leaves 25 = .ok (.istore_n 3, 1) := by decide +kernel
theorem dX11_leaves_26 : decode cX11_leaves 26 = .ok (.iconst 0, 1) := by decide +kernel
theorem dX11_leaves_27 : decode cX11_leaves 27 = .ok (.istore 4, 2) := by decide +kernel
theorem dX11_leaves_29 : decode cX11_leaves 29 = .ok (.iload 4, 2) := by decide +kernel
theorem dX11_leaves_31 : decode cX11_leaves 31 = .ok (.aload_n 0, 1) := by decide +kernel
theorem dX11_leaves_32 : decode cX11_leaves 32 = .ok (.getfield 42, 3) := by decide +kernel
theorem dX11_leaves_35 : decode cX11_leaves 35 = .ok (.getfield 221, 3) := by decide +kernel
theorem dX11_leaves_38 : decode cX11_leaves 38 = .ok (.if_icmp .ge 37, 3) := by decide +kernel
theorem dX11_leaves_41 : decode cX11_leaves 41 = .ok (.iload_n 2, 1) := by decide +kernel
theorem dX11_leaves_42 : decode cX11_leaves 42 = .ok (.iload 4, 2) := by decide +kernel
theorem dX11_leaves_44 : decode cX11_leaves 44 = .ok (.invokestatic 215, 3) := by decide +kernel
theorem dX11_leaves_47 : decode cX11_leaves 47 = .ok (.iconst 1, 1) := by decide +kernel
theorem dX11_leaves_48 : decode cX11_leaves 48 = .ok (.if_icmp .ne 21, 3) := by decide +kernel
theorem dX11_leaves_51 : decode cX11_leaves 51 = .ok (.aload_n 0, 1) := by decide +kernel
theorem dX11_leaves_52 : decode cX11_leaves 52 = .ok (.iload_n 2, 1) := by decide +kernel
theorem dX11_leaves_53 : decode cX11_leaves 53 = .ok (.iload 4, 2) := by decide +kernel
theorem dX11_leaves_55 : decode cX11_leaves 55 = .ok (.iload_n 1, 1) := by decide +kernel
theorem dX11_leaves_56 : decode cX11_leaves 56 = .ok (.invokevirtual 400, 3) := by decide +kernel
theorem dX11_leaves_59 : decode cX11_leaves 59 = .ok (.ifCond .eq 10, 3) := by decide +kernel
theorem dX11_leaves_62 : decode cX11_leaves 62 = .ok (.iload_n 3, 1) := by decide +kernel
theorem dX11_leaves_63 : decode cX11_leaves 63 = .ok (.iconst 1, 1) := by decide +kernel
theorem dX11_leaves_64 : decode cX11_leaves 64 = .ok (.iload 4, 2) := by decide +kernel
theorem dX11_leaves_66 : decode cX11_leaves 66 = .ok (.ishl, 1) := by decide +kernel
theorem dX11_leaves_67 : decode cX11_leaves 67 = .ok (.ior, 1) := by decide +kernel
theorem dX11_leaves_68 : decode cX11_leaves 68 = .ok (.istore_n 3, 1) := by decide +kernel
theorem dX11_leaves_69 : decode cX11_leaves 69 = .ok (.iinc 4 1, 3) := by decide +kernel
theorem dX11_leaves_72 : decode cX11_leaves 72 = .ok (.goto (-43), 3) := by decide +kernel
theorem dX11_leaves_75 : decode cX11_leaves 75 = .ok (.iload_n 3, 1) := by decide +kernel
theorem dX11_leaves_76 : decode cX11_leaves 76 = .ok (.ireturn, 1) := by decide +kernel
theorem dX11_scorched_0 : decode cX11_scorched 0 = .ok (.aload_n 0, 1) := by decide +kernel
theorem dX11_scorched_1 : decode cX11_scorched 1 = .ok (.iload_n 1, 1) := by decide +kernel
theorem dX11_scorched_2 : decode cX11_scorched 2 = .ok (.invokevirtual 160, 3) := by decide +kernel
theorem dX11_scorched_5 : decode cX11_scorched 5 = .ok (.ifCond .eq 30, 3) := by decide +kernel
theorem dX11_scorched_8 : decode cX11_scorched 8 = .ok (.aload_n 0, 1) := by decide +kernel
theorem dX11_scorched_9 : decode cX11_scorched 9 = .ok (.iload_n 3, 1) := by decide +kernel
theorem dX11_scorched_10 : decode cX11_scorched 10 = .ok (.invokevirtual 160, 3) := by decide +kernel
theorem dX11_scorched_13 : decode cX11_scorched 13 = .ok (.ifCond .eq 22, 3) := by decide +kernel
theorem dX11_scorched_16 : decode cX11_scorched 16 = .ok (.iload_n 2, 1) := by decide +kernel
theorem dX11_scorched_17 : decode cX11_scorched 17 = .ok (.invokestatic 245, 3) := by decide +kernel
theorem dX11_scorched_20 : decode cX11_scorched 20 = .ok (.ifCond .eq 15, 3) := by decide +kernel
theorem dX11_scorched_23 : decode cX11_scorched 23 = .ok (.aload_n 0, 1) := by decide +kernel
theorem dX11_scorched_24 : decode cX11_scorched 24 = .ok (.getfield 72, 3) := by decide +kernel
theorem dX11_scorched_27 : decode cX11_scorched 27 = .ok (.getfield 146, 3) := by decide +kernel
theorem dX11_scorched_30 : decode cX11_scorched 30 = .ok (.bipush 10, 2) := by decide +kernel
theorem dX11_scorched_32 : decode cX11_scorched 32 = .ok (.if_icmp .lt 5, 3) := by decide +kernel
theorem dX11_scorched_35 : decode cX11_scorched 35 = .ok (.iconst (-1), 1) := by decide +kernel
theorem dX11_scorched_36 : decode cX11_scorched 36 = .ok (.ireturn, 1) := by decide +kernel
theorem dX11_scorched_37 : decode cX11_scorched 37 = .ok (.aload_n 0, 1) := by decide +kernel
theorem dX11_scorched_38 : decode cX11_scorched 38 = .ok (.getfield 72, 3) := by decide +kernel
theorem dX11_scorched_41 : decode cX11_scorched 41 = .ok (.iload_n 1, 1) := by decide +kernel
theorem dX11_scorched_42 : decode cX11_scorched 42 = .ok (.iload_n 2, 1) := by decide +kernel
theorem dX11_scorched_43 : decode cX11_scorched 43 = .ok (.iload_n 3, 1) := by decide +kernel
theorem dX11_scorched_44 : decode cX11_scorched 44 = .ok (.iload 4, 2) := by decide +kernel
theorem dX11_scorched_46 : decode cX11_scorched 46 = .ok (.invokevirtual 403, 3) := by decide +kernel
theorem dX11_scorched_49 : decode cX11_scorched 49 = .ok (.aload_n 0, 1) := by decide +kernel
theorem dX11_scorched_50 : decode cX11_scorched 50 = .ok (.getfield 72, 3) := by decide +kernel
theorem dX11_scorched_53 : decode cX11_scorched 53 = .ok (.getfield 146, 3) := by decide +kernel
theorem dX11_scorched_56 : decode cX11_scorched 56 = .ok (.ireturn, 1) := by decide +kernel
theorem dX11_who_0 : decode cX11_who 0 = .ok (.aload_n 0, 1) := by decide +kernel
theorem dX11_who_1 : decode cX11_who 1 = .ok (.invokevirtual 274, 3) := by decide +kernel
theorem dX11_who_4 : decode cX11_who 4 = .ok (.ifCond .eq 12, 3) := by decide +kernel
theorem dX11_who_7 : decode cX11_who 7 = .ok (.iload_n 1, 1) := by decide +kernel
theorem dX11_who_8 : decode cX11_who 8 = .ok (.ifCond .lt 8, 3) := by decide +kernel
theorem dX11_who_11 : decode cX11_who 11 = .ok (.iload_n 1, 1) := by decide +kernel
theorem dX11_who_12 : decode cX11_who 12 = .ok (.iconst 2, 1) := by decide +kernel
theorem dX11_who_13 : decode cX11_who 13 = .ok (.if_icmp .le 5, 3) := by decide +kernel
theorem dX11_who_16 : decode cX11_who 16 = .ok (.iconst (-1), 1) := by decide +kernel
theorem dX11_who_17 : decode cX11_who 17 = .ok (.ireturn, 1) := by decide +kernel
theorem dX11_who_18 : decode cX11_who 18 = .ok (.aload_n 0, 1) := by decide +kernel
theorem dX11_who_19 : decode cX11_who 19 = .ok (.iload_n 1, 1) := by decide +kernel
theorem dX11_who_20 : decode cX11_who 20 = .ok (.invokevirtual 406, 3) := by decide +kernel
theorem dX11_who_23 : decode cX11_who 23 = .ok (.iload_n 2, 1) := by decide +kernel
theorem dX11_who_24 : decode cX11_who 24 = .ok (.iconst (-1), 1) := by decide +kernel
theorem dX11_who_25 : decode cX11_who 25 = .ok (.if_icmp .ne 11, 3) := by decide +kernel
theorem dX11_who_28 : decode cX11_who 28 = .ok (.aload_n 0, 1) := by decide +kernel
theorem dX11_who_29 : decode cX11_who 29 = .ok (.getfield 88, 3) := by decide +kernel
theorem dX11_who_32 : decode cX11_who 32 = .ok (.getfield 333, 3) := by decide +kernel
theorem dX11_who_35 : decode cX11_who 35 = .ok (.ireturn, 1) := by decide +kernel
theorem dX11_who_36 : decode cX11_who 36 = .ok (.iload_n 2, 1) := by decide +kernel
theorem dX11_who_37 : decode cX11_who 37 = .ok (.ifCond .lt 14, 3) := by decide +kernel
theorem dX11_who_40 : decode cX11_who 40 = .ok (.iload_n 2, 1) := by decide +kernel
theorem dX11_who_41 : decode cX11_who 41 = .ok (.aload_n 0, 1) := by decide +kernel
theorem dX11_who_42 : decode cX11_who 42 = .ok (.getfield 88, 3) := by decide +kernel
theorem dX11_who_45 : decode cX11_who 45 = .ok (.getfield 333, 3) := by decide +kernel
theorem dX11_who_48 : decode cX11_who 48 = .ok (.if_icmp .lt 7, 3) := by decide +kernel
theorem dX11_who_51 : decode cX11_who 51 = .ok (.iconst (-1), 1) := by decide +kernel
theorem dX11_who_52 : decode cX11_who 52 = .ok (.goto 12, 3) := by decide +kernel
theorem dX11_who_55 : decode cX11_who 55 = .ok (.aload_n 0, 1) := by decide +kernel
theorem dX11_who_56 : decode cX11_who 56 = .ok (.getfield 88, 3) := by decide +kernel
theorem dX11_who_59 : decode cX11_who 59 = .ok (.getfield 336, 3) := by decide +kernel
theorem dX11_who_62 : decode cX11_who 62 = .ok (.iload_n 2, 1) := by decide +kernel
theorem dX11_who_63 : decode cX11_who 63 = .ok (.iaload, 1) := by decide +kernel
theorem dX11_who_64 : decode cX11_who 64 = .ok (.ireturn, 1) := by decide +kernel
theorem dX11_sure_0 : decode cX11_sure 0 = .ok (.aload_n 0, 1) := by decide +kernel
theorem dX11_sure_1 : decode cX11_sure 1 = .ok (.invokevirtual 274, 3) := by decide +kernel
theorem dX11_sure_4 : decode cX11_sure 4 = .ok (.ifCond .eq 12, 3) := by decide +kernel
theorem dX11_sure_7 : decode cX11_sure 7 = .ok (.iload_n 1, 1) := by decide +kernel
theorem dX11_sure_8 : decode cX11_sure 8 = .ok (.ifCond .lt 8, 3) := by decide +kernel
theorem dX11_sure_11 : decode cX11_sure 11 = .ok (.iload_n 1, 1) := by decide +kernel
theorem dX11_sure_12 : decode cX11_sure 12 = .ok (.iconst 2, 1) := by decide +kernel
theorem dX11_sure_13 : decode cX11_sure 13 = .ok (.if_icmp .le 5, 3) := by decide +kernel
theorem dX11_sure_16 : decode cX11_sure 16 = .ok (.iconst (-1), 1) := by decide +kernel
theorem dX11_sure_17 : decode cX11_sure 17 = .ok (.ireturn, 1) := by decide +kernel
theorem dX11_sure_18 : decode cX11_sure 18 = .ok (.aload_n 0, 1) := by decide +kernel
theorem dX11_sure_19 : decode cX11_sure 19 = .ok (.iload_n 1, 1) := by decide +kernel
theorem dX11_sure_20 : decode cX11_sure 20 = .ok (.invokevirtual 406, 3) := by decide +kernel
theorem dX11_sure_23 : decode cX11_sure 23 = .ok (.iconst (-1), 1) := by decide +kernel
theorem dX11_sure_24 : decode cX11_sure 24 = .ok (.istore_n 2, 1) := by decide +kernel
theorem dX11_sure_25 : decode cX11_sure 25 = .ok (.iconst 0, 1) := by decide +kernel
theorem dX11_sure_26 : decode cX11_sure 26 = .ok (.istore_n 3, 1) := by decide +kernel
theorem dX11_sure_27 : decode cX11_sure 27 = .ok (.iload_n 3, 1) := by decide +kernel
theorem dX11_sure_28 : decode cX11_sure 28 = .ok (.aload_n 0, 1) := by decide +kernel
theorem dX11_sure_29 : decode cX11_sure 29 = .ok (.getfield 88, 3) := by decide +kernel
theorem dX11_sure_32 : decode cX11_sure 32 = .ok (.getfield 333, 3) := by decide +kernel
theorem dX11_sure_35 : decode cX11_sure 35 = .ok (.if_icmp .ge 21, 3) := by decide +kernel
theorem dX11_sure_38 : decode cX11_sure 38 = .ok (.iload_n 2, 1) := by decide +kernel
theorem dX11_sure_39 : decode cX11_sure 39 = .ok (.aload_n 0, 1) := by decide +kernel
theorem dX11_sure_40 : decode cX11_sure 40 = .ok (.getfield 88, 3) := by decide +kernel
theorem dX11_sure_43 : decode cX11_sure 43 = .ok (.getfield 336, 3) := by decide +kernel
theorem dX11_sure_46 : decode cX11_sure 46 = .ok (.iload_n 3, 1) := by decide +kernel
theorem dX11_sure_47 : decode cX11_sure 47 = .ok (.iaload, 1) := by decide +kernel
theorem dX11_sure_48 : decode cX11_sure 48 = .ok (.iand, 1) := by decide +kernel
theorem dX11_sure_49 : decode cX11_sure 49 = .ok (.istore_n 2, 1) := by decide +kernel
theorem dX11_sure_50 : decode cX11_sure 50 = .ok (.iinc 3 1, 3) := by decide +kernel
theorem dX11_sure_53 : decode cX11_sure 53 = .ok (.goto (-26), 3) := by decide +kernel
theorem dX11_sure_56 : decode cX11_sure 56 = .ok (.iload_n 2, 1) := by decide +kernel
theorem dX11_sure_57 : decode cX11_sure 57 = .ok (.ireturn, 1) := by decide +kernel
theorem dX11_best_0 : decode cX11_best 0 = .ok (.aload_n 0, 1) := by decide +kernel
theorem dX11_best_1 : decode cX11_best 1 = .ok (.invokevirtual 274, 3) := by decide +kernel
theorem dX11_best_4 : decode cX11_best 4 = .ok (.ifCond .eq 12, 3) := by decide +kernel
theorem dX11_best_7 : decode cX11_best 7 = .ok (.iload_n 1, 1) := by decide +kernel
theorem dX11_best_8 : decode cX11_best 8 = .ok (.ifCond .lt 8, 3) := by decide +kernel
theorem dX11_best_11 : decode cX11_best 11 = .ok (.iload_n 1, 1) := by decide +kernel
theorem dX11_best_12 : decode cX11_best 12 = .ok (.iconst 2, 1) := by decide +kernel
theorem dX11_best_13 : decode cX11_best 13 = .ok (.if_icmp .le 5, 3) := by decide +kernel
theorem dX11_best_16 : decode cX11_best 16 = .ok (.iconst (-1), 1) := by decide +kernel
theorem dX11_best_17 : decode cX11_best 17 = .ok (.ireturn, 1) := by decide +kernel
theorem dX11_best_18 : decode cX11_best 18 = .ok (.aload_n 0, 1) := by decide +kernel
theorem dX11_best_19 : decode cX11_best 19 = .ok (.iload_n 1, 1) := by decide +kernel
theorem dX11_best_20 : decode cX11_best 20 = .ok (.invokevirtual 406, 3) := by decide +kernel
theorem dX11_best_23 : decode cX11_best 23 = .ok (.aload_n 0, 1) := by decide +kernel
theorem dX11_best_24 : decode cX11_best 24 = .ok (.getfield 88, 3) := by decide +kernel
theorem dX11_best_27 : decode cX11_best 27 = .ok (.getfield 333, 3) := by decide +kernel
theorem dX11_best_30 : decode cX11_best 30 = .ok (.ifCond .ne 5, 3) := by decide +kernel
theorem dX11_best_33 : decode cX11_best 33 = .ok (.iconst (-1), 1) := by decide +kernel
theorem dX11_best_34 : decode cX11_best 34 = .ok (.ireturn, 1) := by decide +kernel
theorem dX11_best_35 : decode cX11_best 35 = .ok (.aload_n 0, 1) := by decide +kernel
theorem dX11_best_36 : decode cX11_best 36 = .ok (.getfield 88, 3) := by decide +kernel
theorem dX11_best_39 : decode cX11_best 39 = .ok (.getfield 333, 3) := by decide +kernel
theorem dX11_best_42 : decode cX11_best 42 = .ok (.iconst 1, 1) := by decide +kernel
theorem dX11_best_43 : decode cX11_best 43 = .ok (.iadd, 1) := by decide +kernel
theorem dX11_best_44 : decode cX11_best 44 = .ok (.istore_n 2, 1) := by decide +kernel
theorem dX11_best_45 : decode cX11_best 45 = .ok (.iconst (-1), 1) := by decide +kernel
theorem dX11_best_46 : decode cX11_best 46 = .ok (.istore_n 3, 1) := by decide +kernel
theorem dX11_best_47 : decode cX11_best 47 = .ok (.iconst 0, 1) := by decide +kernel
theorem dX11_best_48 : decode cX11_best 48 = .ok (.istore 4, 2) := by decide +kernel
theorem dX11_best_50 : decode cX11_best 50 = .ok (.iload 4, 2) := by decide +kernel
theorem dX11_best_52 : decode cX11_best 52 = .ok (.aload_n 0, 1) := by decide +kernel
theorem dX11_best_53 : decode cX11_best 53 = .ok (.getfield 42, 3) := by decide +kernel
theorem dX11_best_56 : decode cX11_best 56 = .ok (.getfield 154, 3) := by decide +kernel
theorem dX11_best_59 : decode cX11_best 59 = .ok (.if_icmp .ge 42, 3) := by decide +kernel
theorem dX11_best_62 : decode cX11_best 62 = .ok (.iconst 2, 1) := by decide +kernel
theorem dX11_best_63 : decode cX11_best 63 = .ok (.aload_n 0, 1) := by decide +kernel
theorem dX11_best_64 : decode cX11_best 64 = .ok (.iload 4, 2) := by decide +kernel
theorem dX11_best_66 : decode cX11_best 66 = .ok (.invokevirtual 409, 3) := by decide +kernel
theorem dX11_best_69 : decode cX11_best 69 = .ok (.imul, 1) := by decide +kernel
theorem dX11_best_70 : decode cX11_best 70 = .ok (.aload_n 0, 1) := by decide +kernel
theorem dX11_best_71 : decode cX11_best 71 = .ok (.getfield 88, 3) := by decide +kernel
theorem dX11_best_74 : decode cX11_best 74 = .ok (.getfield 333, 3) := by decide +kernel
theorem dX11_best_77 : decode cX11_best 77 = .ok (.isub, 1) := by decide +kernel
theorem dX11_best_78 : decode cX11_best 78 = .ok (.invokestatic 412, 3) := by decide +kernel
theorem dX11_best_81 : decode cX11_best 81 = .ok (.istore 5, 2) := by decide +kernel
theorem dX11_best_83 : decode cX11_best 83 = .ok (.iload 5, 2) := by decide +kernel
theorem dX11_best_85 : decode cX11_best 85 = .ok (.iload_n 2, 1) := by decide +kernel
theorem dX11_best_86 : decode cX11_best 86 = .ok (.if_icmp .ge 9, 3) := by decide +kernel
theorem dX11_best_89 : decode cX11_best 89 = .ok (.iload 5, 2) := by decide +kernel
theorem dX11_best_91 : decode cX11_best 91 = .ok (.istore_n 2, 1) := by decide +kernel
theorem dX11_best_92 : decode cX11_best 92 = .ok (.iload 4, 2) := by decide +kernel
theorem dX11_best_94 : decode cX11_best 94 = .ok (.istore_n 3, 1) := by decide +kernel
theorem dX11_best_95 : decode cX11_best 95 = .ok (.iinc 4 1, 3) := by decide +kernel
theorem dX11_best_98 : decode cX11_best 98 = .ok (.goto (-48), 3) := by decide +kernel
theorem dX11_best_101 : decode cX11_best 101 = .ok (.iload_n 3, 1) := by decide +kernel
theorem dX11_best_102 : decode cX11_best 102 = .ok (.ireturn, 1) := by decide +kernel
theorem dX11_odds_0 : decode cX11_odds 0 = .ok (.aload_n 0, 1) := by decide +kernel
theorem dX11_odds_1 : decode cX11_odds 1 = .ok (.iload_n 1, 1) := by decide +kernel
theorem dX11_odds_2 : decode cX11_odds 2 = .ok (.invokevirtual 160, 3) := by decide +kernel
theorem dX11_odds_5 : decode cX11_odds 5 = .ok (.ifCond .eq 20, 3) := by decide +kernel
theorem dX11_odds_8 : decode cX11_odds 8 = .ok (.iload_n 2, 1) := by decide +kernel
theorem dX11_odds_9 : decode cX11_odds 9 = .ok (.invokestatic 245, 3) := by decide +kernel
theorem dX11_odds_12 : decode cX11_odds 12 = .ok (.ifCond .eq 13, 3) := by decide +kernel
theorem dX11_odds_15 : decode cX11_odds 15 = .ok (.aload_n 0, 1) := by decide +kernel
theorem dX11_odds_16 : decode cX11_odds 16 = .ok (.iload_n 1, 1) := by decide +kernel
theorem dX11_odds_17 : decode cX11_odds 17 = .ok (.iload_n 2, 1) := by decide +kernel
theorem dX11_odds_18 : decode cX11_odds 18 = .ok (.invokevirtual 417, 3) := by decide +kernel
theorem dX11_odds_21 : decode cX11_odds 21 = .ok (.l2i, 1) := by decide +kernel
theorem dX11_odds_22 : decode cX11_odds 22 = .ok (.goto 4, 3) := by decide +kernel
theorem dX11_odds_25 : decode cX11_odds 25 = .ok (.iconst (-1), 1) := by decide +kernel
theorem dX11_odds_26 : decode cX11_odds 26 = .ok (.ireturn, 1) := by decide +kernel
theorem dX11_premium_0 : decode cX11_premium 0 = .ok (.aload_n 0, 1) := by decide +kernel
theorem dX11_premium_1 : decode cX11_premium 1 = .ok (.iload_n 1, 1) := by decide +kernel
theorem dX11_premium_2 : decode cX11_premium 2 = .ok (.invokevirtual 160, 3) := by decide +kernel
theorem dX11_premium_5 : decode cX11_premium 5 = .ok (.ifCond .eq 22, 3) := by decide +kernel
theorem dX11_premium_8 : decode cX11_premium 8 = .ok (.iload_n 2, 1) := by decide +kernel
theorem dX11_premium_9 : decode cX11_premium 9 = .ok (.invokestatic 245, 3) := by decide +kernel
theorem dX11_premium_12 : decode cX11_premium 12 = .ok (.ifCond .eq 15, 3) := by decide +kernel
theorem dX11_premium_15 : decode cX11_premium 15 = .ok (.iload_n 3, 1) := by decide +kernel
theorem dX11_premium_16 : decode cX11_premium 16 = .ok (.iconst 1, 1) := by decide +kernel
theorem dX11_premium_17 : decode cX11_premium 17 = .ok (.if_icmp .lt 10, 3) := by decide +kernel
theorem dX11_premium_20 : decode cX11_premium 20 = .ok (.iload_n 3, 1) := by decide +kernel
theorem dX11_premium_21 : decode cX11_premium 21 = .ok (.sipush 999, 3) := by decide +kernel
theorem dX11_premium_24 : decode cX11_premium 24 = .ok (.if_icmp .le 5, 3) := by decide +kernel
theorem dX11_premium_27 : decode cX11_premium 27 = .ok (.iconst (-1), 1) := by decide +kernel
theorem dX11_premium_28 : decode cX11_premium 28 = .ok (.ireturn, 1) := by decide +kernel
theorem dX11_premium_29 : decode cX11_premium 29 = .ok (.aload_n 0, 1) := by decide +kernel
theorem dX11_premium_30 : decode cX11_premium 30 = .ok (.iload_n 1, 1) := by decide +kernel
theorem dX11_premium_31 : decode cX11_premium 31 = .ok (.iload_n 2, 1) := by decide +kernel
theorem dX11_premium_32 : decode cX11_premium 32 = .ok (.invokevirtual 417, 3) := by decide +kernel
theorem dX11_premium_35 : decode cX11_premium 35 = .ok (.iload_n 3, 1) := by decide +kernel
theorem dX11_premium_36 : decode cX11_premium 36 = .ok (.i2l, 1) := by decide +kernel
theorem dX11_premium_37 : decode cX11_premium 37 = .ok (.lmul, 1) := by decide +kernel
theorem dX11_premium_38 : decode cX11_premium 38 = .ok (.ldc2_w 421, 3) := by decide +kernel
theorem dX11_premium_41 : decode cX11_premium 41 = .ok (.ladd, 1) := by decide +kernel
theorem dX11_premium_42 : decode cX11_premium 42 = .ok (.lconst 1, 1) := by decide +kernel
theorem dX11_premium_43 : decode cX11_premium 43 = .ok (.lsub, 1) := by decide +kernel
theorem dX11_premium_44 : decode cX11_premium 44 = .ok (.ldc2_w 421, 3) := by decide +kernel
theorem dX11_premium_47 : decode cX11_premium 47 = .ok (.ldiv, 1) := by decide +kernel
theorem dX11_premium_48 : decode cX11_premium 48 = .ok (.l2i, 1) := by decide +kernel
theorem dX11_premium_49 : decode cX11_premium 49 = .ok (.ireturn, 1) := by decide +kernel
theorem dX11_test_0 : decode cX11_test 0 = .ok (.aload_n 0, 1) := by decide +kernel
theorem dX11_test_1 : decode cX11_test 1 = .ok (.invokevirtual 274, 3) := by decide +kernel
theorem dX11_test_4 : decode cX11_test 4 = .ok (.ifCond .eq 24, 3) := by decide +kernel
theorem dX11_test_7 : decode cX11_test 7 = .ok (.iload_n 1, 1) := by decide +kernel
theorem dX11_test_8 : decode cX11_test 8 = .ok (.ifCond .lt 20, 3) := by decide +kernel
theorem dX11_test_11 : decode cX11_test 11 = .ok (.iload_n 1, 1) := by decide +kernel
theorem dX11_test_12 : decode cX11_test 12 = .ok (.getstatic 423, 3) := by decide +kernel
theorem dX11_test_15 : decode cX11_test 15 = .ok (.arraylength, 1) := by decide +kernel
theorem dX11_test_16 : decode cX11_test 16 = .ok (.if_icmp .ge 12, 3) := by decide +kernel
theorem dX11_test_19 : decode cX11_test 19 = .ok (.aload_n 0, 1) := by decide +kernel
theorem dX11_test_20 : decode cX11_test 20 = .ok (.getfield 151, 3) := by decide +kernel
theorem dX11_test_23 : decode cX11_test 23 = .ok (.bipush 12, 2) := by decide +kernel
theorem dX11_test_25 : decode cX11_test 25 = .ok (.if_icmp .lt 5, 3) := by decide +kernel
theorem dX11_test_28 : decode cX11_test 28 = .ok (.iconst (-1), 1) := by decide +kernel
theorem dX11_test_29 : decode cX11_test 29 = .ok (.ireturn, 1) := by decide +kernel
theorem dX11_test_30 : decode cX11_test 30 = .ok (.aload_n 0, 1) := by decide +kernel
theorem dX11_test_31 : decode cX11_test 31 = .ok (.dup, 1) := by decide +kernel
theorem dX11_test_32 : decode cX11_test 32 = .ok (.getfield 103, 3) := by decide +kernel
theorem dX11_test_35 : decode cX11_test 35 = .ok (.iload_n 2, 1) := by decide +kernel
theorem dX11_test_36 : decode cX11_test 36 = .ok (.ifCond .eq 12, 3) := by decide +kernel
theorem dX11_test_39 : decode cX11_test 39 = .ok (.getstatic 423, 3) := by decide +kernel
theorem dX11_test_42 : decode cX11_test 42 = .ok (.iload_n 1, 1) := by decide +kernel
theorem dX11_test_43 : decode cX11_test 43 = .ok (.iaload, 1) := by decide +kernel
theorem dX11_test_44 : decode cX11_test 44 = .ok (.i2l, 1) := by decide +kernel
theorem dX11_test_45 : decode cX11_test 45 = .ok (.goto 12, 3) := by decide +kernel
theorem dX11_test_48 : decode cX11_test 48 = .ok (.bipush 10, 2) := by decide +kernel
theorem dX11_test_50 : decode cX11_test 50 = .ok (.getstatic 423, 3) := by decide +kernel
theorem dX11_test_53 : decode cX11_test 53 = .ok (.iload_n 1, 1) := by decide +kernel
theorem dX11_test_54 : decode cX11_test 54 = .ok (.iaload, 1) := by decide +kernel
theorem dX11_test_55 : decode cX11_test 55 = .ok (.isub, 1) := by decide +kernel
theorem dX11_test_56 : decode cX11_test 56 = .ok (.i2l, 1) := by decide +kernel
theorem dX11_test_57 : decode cX11_test 57 = .ok (.lmul, 1) := by decide +kernel
theorem dX11_test_58 : decode cX11_test 58 = .ok (.putfield 103, 3) := by decide +kernel
theorem dX11_test_61 : decode cX11_test 61 = .ok (.aload_n 0, 1) := by decide +kernel
theorem dX11_test_62 : decode cX11_test 62 = .ok (.dup, 1) := by decide +kernel
theorem dX11_test_63 : decode cX11_test 63 = .ok (.getfield 107, 3) := by decide +kernel
theorem dX11_test_66 : decode cX11_test 66 = .ok (.iload_n 2, 1) := by decide +kernel
theorem dX11_test_67 : decode cX11_test 67 = .ok (.ifCond .eq 12, 3) := by decide +kernel
theorem dX11_test_70 : decode cX11_test 70 = .ok (.getstatic 426, 3) := by decide +kernel
theorem dX11_test_73 : decode cX11_test 73 = .ok (.iload_n 1, 1) := by decide +kernel
theorem dX11_test_74 : decode cX11_test 74 = .ok (.iaload, 1) := by decide +kernel
theorem dX11_test_75 : decode cX11_test 75 = .ok (.i2l, 1) := by decide +kernel
theorem dX11_test_76 : decode cX11_test 76 = .ok (.goto 12, 3) := by decide +kernel
theorem dX11_test_79 : decode cX11_test 79 = .ok (.bipush 10, 2) := by decide +kernel
theorem dX11_test_81 : decode cX11_test 81 = .ok (.getstatic 426, 3) := by decide +kernel
theorem dX11_test_84 : decode cX11_test 84 = .ok (.iload_n 1, 1) := by decide +kernel
theorem dX11_test_85 : decode cX11_test 85 = .ok (.iaload, 1) := by decide +kernel
theorem dX11_test_86 : decode cX11_test 86 = .ok (.isub, 1) := by decide +kernel
theorem dX11_test_87 : decode cX11_test 87 = .ok (.i2l, 1) := by decide +kernel
theorem dX11_test_88 : decode cX11_test 88 = .ok (.lmul, 1) := by decide +kernel
theorem dX11_test_89 : decode cX11_test 89 = .ok (.putfield 107, 3) := by decide +kernel
theorem dX11_test_92 : decode cX11_test 92 = .ok (.aload_n 0, 1) := by decide +kernel
theorem dX11_test_93 : decode cX11_test 93 = .ok (.dup, 1) := by decide +kernel
theorem dX11_test_94 : decode cX11_test 94 = .ok (.getfield 151, 3) := by decide +kernel
theorem dX11_test_97 : decode cX11_test 97 = .ok (.iconst 1, 1) := by decide +kernel
theorem dX11_test_98 : decode cX11_test 98 = .ok (.iadd, 1) := by decide +kernel
theorem dX11_test_99 : decode cX11_test 99 = .ok (.putfield 151, 3) := by decide +kernel
theorem dX11_test_102 : decode cX11_test 102 = .ok (.aload_n 0, 1) := by decide +kernel
theorem dX11_test_103 : decode cX11_test 103 = .ok (.getfield 151, 3) := by decide +kernel
theorem dX11_test_106 : decode cX11_test 106 = .ok (.ireturn, 1) := by decide +kernel
theorem dX11_stroke_0 : decode cX11_stroke 0 = .ok (.aload_n 0, 1) := by decide +kernel
theorem dX11_stroke_1 : decode cX11_stroke 1 = .ok (.getfield 103, 3) := by decide +kernel
theorem dX11_stroke_4 : decode cX11_stroke 4 = .ok (.aload_n 0, 1) := by decide +kernel
theorem dX11_stroke_5 : decode cX11_stroke 5 = .ok (.getfield 107, 3) := by decide +kernel
theorem dX11_stroke_8 : decode cX11_stroke 8 = .ok (.ladd, 1) := by decide +kernel
theorem dX11_stroke_9 : decode cX11_stroke 9 = .ok (.lstore_n 1, 1) := by decide +kernel
theorem dX11_stroke_10 : decode cX11_stroke 10 = .ok (.aload_n 0, 1) := by decide +kernel
theorem dX11_stroke_11 : decode cX11_stroke 11 = .ok (.invokevirtual 274, 3) := by decide +kernel
theorem dX11_stroke_14 : decode cX11_stroke 14 = .ok (.ifCond .eq 9, 3) := by decide +kernel
theorem dX11_stroke_17 : decode cX11_stroke 17 = .ok (.lload_n 1, 1) := by decide +kernel
theorem dX11_stroke_18 : decode cX11_stroke 18 = .ok (.lconst 1, 1) := by decide +kernel
theorem dX11_stroke_19 : decode cX11_stroke 19 = .ok (.lcmp, 1) := by decide +kernel
theorem dX11_stroke_20 : decode cX11_stroke 20 = .ok (.ifCond .ge 7, 3) := by decide +kernel
theorem dX11_stroke_23 : decode cX11_stroke 23 = .ok (.iconst (-1), 1) := by decide +kernel
theorem dX11_stroke_24 : decode cX11_stroke 24 = .ok (.goto 14, 3) := by decide +kernel
theorem dX11_stroke_27 : decode cX11_stroke 27 = .ok (.aload_n 0, 1) := by decide +kernel
theorem dX11_stroke_28 : decode cX11_stroke 28 = .ok (.getfield 103, 3) := by decide +kernel
theorem dX11_stroke_31 : decode cX11_stroke 31 = .ok (.ldc2_w 429, 3) := by decide +kernel
theorem dX11_stroke_34 : decode cX11_stroke 34 = .ok (.lmul, 1) := by decide +kernel
theorem dX11_stroke_35 : decode cX11_stroke 35 = .ok (.lload_n 1, 1) := by decide +kernel
theorem dX11_stroke_36 : decode cX11_stroke 36 = .ok (.ldiv, 1) := by decide +kernel
theorem dX11_stroke_37 : decode cX11_stroke 37 = .ok (.l2i, 1) := by decide +kernel
theorem dX11_stroke_38 : decode cX11_stroke 38 = .ok (.ireturn, 1) := by decide +kernel
theorem dX11_bitOf_0 : decode cX11_bitOf 0 = .ok (.iload_n 0, 1) := by decide +kernel
theorem dX11_bitOf_1 : decode cX11_bitOf 1 = .ok (.iload_n 1, 1) := by decide +kernel
theorem dX11_bitOf_2 : decode cX11_bitOf 2 = .ok (.ishr, 1) := by decide +kernel
theorem dX11_bitOf_3 : decode cX11_bitOf 3 = .ok (.iconst 1, 1) := by decide +kernel
theorem dX11_bitOf_4 : decode cX11_bitOf 4 = .ok (.iand, 1) := by decide +kernel
theorem dX11_bitOf_5 : decode cX11_bitOf 5 = .ok (.ireturn, 1) := by decide +kernel
theorem dX11_isBit_0 : decode cX11_isBit 0 = .ok (.iload_n 0, 1) := by decide +kernel
theorem dX11_isBit_1 : decode cX11_isBit 1 = .ok (.ifCond .eq 8, 3) := by decide +kernel
theorem dX11_isBit_4 : decode cX11_isBit 4 = .ok (.iload_n 0, 1) := by decide +kernel
theorem dX11_isBit_5 : decode cX11_isBit 5 = .ok (.iconst 1, 1) := by decide +kernel
theorem dX11_isBit_6 : decode cX11_isBit 6 = .ok (.if_icmp .ne 7, 3) := by decide +kernel
theorem dX11_isBit_9 : decode cX11_isBit 9 = .ok (.iconst 1, 1) := by decide +kernel
theorem dX11_isBit_10 : decode cX11_isBit 10 = .ok (.goto 4, 3) := by decide +kernel
theorem dX11_isBit_13 : decode cX11_isBit 13 = .ok (.iconst 0, 1) := by decide +kernel
theorem dX11_isBit_14 : decode cX11_isBit 14 = .ok (.ireturn, 1) := by decide +kernel
theorem dX11_isStroke_0 : decode cX11_isStroke 0 = .ok (.iload_n 0, 1) := by decide +kernel
theorem dX11_isStroke_1 : decode cX11_isStroke 1 = .ok (.iconst 1, 1) := by decide +kernel
theorem dX11_isStroke_2 : decode cX11_isStroke 2 = .ok (.if_icmp .lt 14, 3) := by decide +kernel
theorem dX11_isStroke_5 : decode cX11_isStroke 5 = .ok (.iload_n 0, 1) := by decide +kernel
theorem dX11_isStroke_6 : decode cX11_isStroke 6 = .ok (.sipush 999, 3) := by decide +kernel
theorem dX11_isStroke_9 : decode cX11_isStroke 9 = .ok (.if_icmp .gt 7, 3) := by decide +kernel
theorem dX11_isStroke_12 : decode cX11_isStroke 12 = .ok (.iconst 1, 1) := by decide +kernel
theorem dX11_isStroke_13 : decode cX11_isStroke 13 = .ok (.goto 4, 3) := by decide +kernel
theorem dX11_isStroke_16 : decode cX11_isStroke 16 = .ok (.iconst 0, 1) := by decide +kernel
theorem dX11_isStroke_17 : decode cX11_isStroke 17 = .ok (.ireturn, 1) := by decide +kernel
theorem dX11_bytesOf_0 : decode cX11_bytesOf 0 = .ok (.iconst 0, 1) := by decide +kernel
theorem dX11_bytesOf_1 : decode cX11_bytesOf 1 = .ok (.istore_n 1, 1) := by decide +kernel
theorem dX11_bytesOf_2 : decode cX11_bytesOf 2 = .ok (.iconst 0, 1) := by decide +kernel
theorem dX11_bytesOf_3 : decode cX11_bytesOf 3 = .ok (.istore_n 2, 1) := by decide +kernel
theorem dX11_bytesOf_4 : decode cX11_bytesOf 4 = .ok (.iload_n 2, 1) := by decide +kernel
theorem dX11_bytesOf_5 : decode cX11_bytesOf 5 = .ok (.bipush 32, 2) := by decide +kernel
theorem dX11_bytesOf_7 : decode cX11_bytesOf 7 = .ok (.if_icmp .ge 22, 3) := by decide +kernel
theorem dX11_bytesOf_10 : decode cX11_bytesOf 10 = .ok (.iload_n 0, 1) := by decide +kernel
theorem dX11_bytesOf_11 : decode cX11_bytesOf 11 = .ok (.iload_n 2, 1) := by decide +kernel
theorem dX11_bytesOf_12 : decode cX11_bytesOf 12 = .ok (.ishr, 1) := by decide +kernel
theorem dX11_bytesOf_13 : decode cX11_bytesOf 13 = .ok (.sipush 255, 3) := by decide +kernel
theorem dX11_bytesOf_16 : decode cX11_bytesOf 16 = .ok (.iand, 1) := by decide +kernel
theorem dX11_bytesOf_17 : decode cX11_bytesOf 17 = .ok (.ifCond .eq 6, 3) := by decide +kernel
theorem dX11_bytesOf_20 : decode cX11_bytesOf 20 = .ok (.iinc 1 1, 3) := by decide +kernel
theorem dX11_bytesOf_23 : decode cX11_bytesOf 23 = .ok (.iinc 2 8, 3) := by decide +kernel
theorem dX11_bytesOf_26 : decode cX11_bytesOf 26 = .ok (.goto (-22), 3) := by decide +kernel
theorem dX11_bytesOf_29 : decode cX11_bytesOf 29 = .ok (.iload_n 1, 1) := by decide +kernel
theorem dX11_bytesOf_30 : decode cX11_bytesOf 30 = .ok (.ireturn, 1) := by decide +kernel
theorem dX11_tapeReads_0 : decode cX11_tapeReads 0 = .ok (.iload_n 1, 1) := by decide +kernel
theorem dX11_tapeReads_1 : decode cX11_tapeReads 1 = .ok (.ifCond .ne 13, 3) := by decide +kernel
theorem dX11_tapeReads_4 : decode cX11_tapeReads 4 = .ok (.aload_n 0, 1) := by decide +kernel
theorem dX11_tapeReads_5 : decode cX11_tapeReads 5 = .ok (.getfield 21, 3) := by decide +kernel
theorem dX11_tapeReads_8 : decode cX11_tapeReads 8 = .ok (.invokevirtual 431, 3) := by decide +kernel
theorem dX11_tapeReads_11 : decode cX11_tapeReads 11 = .ok (.goto 10, 3) := by decide +kernel
theorem dX11_tapeReads_14 : decode cX11_tapeReads 14 = .ok (.aload_n 0, 1) := by decide +kernel
theorem dX11_tapeReads_15 : decode cX11_tapeReads 15 = .ok (.getfield 28, 3) := by decide +kernel
theorem dX11_tapeReads_18 : decode cX11_tapeReads 18 = .ok (.invokevirtual 434, 3) := by decide +kernel
theorem dX11_tapeReads_21 : decode cX11_tapeReads 21 = .ok (.ireturn, 1) := by decide +kernel
theorem dX11_hasBelt_0 : decode cX11_hasBelt 0 = .ok (.aload_n 0, 1) := by decide +kernel
theorem dX11_hasBelt_1 : decode cX11_hasBelt 1 = .ok (.getfield 42, 3) := by decide +kernel
theorem dX11_hasBelt_4 : decode cX11_hasBelt 4 = .ok (.getfield 154, 3) := by decide +kernel
theorem dX11_hasBelt_7 : decode cX11_hasBelt 7 = .ok (.ifCond .le 7, 3) := by decide +kernel
theorem dX11_hasBelt_10 : decode cX11_hasBelt 10 = .ok (.iconst 1, 1) := by decide +kernel
theorem dX11_hasBelt_11 : decode cX11_hasBelt 11 = .ok (.goto 4, 3) := by decide +kernel
theorem dX11_hasBelt_14 : decode cX11_hasBelt 14 = .ok (.iconst 0, 1) := by decide +kernel
theorem dX11_hasBelt_15 : decode cX11_hasBelt 15 = .ok (.ireturn, 1) := by decide +kernel
theorem dX11_isHouse_0 : decode cX11_isHouse 0 = .ok (.iload_n 1, 1) := by decide +kernel
theorem dX11_isHouse_1 : decode cX11_isHouse 1 = .ok (.ifCond .lt 18, 3) := by decide +kernel
theorem dX11_isHouse_4 : decode cX11_isHouse 4 = .ok (.iload_n 1, 1) := by decide +kernel
theorem dX11_isHouse_5 : decode cX11_isHouse 5 = .ok (.aload_n 0, 1) := by decide +kernel
theorem dX11_isHouse_6 : decode cX11_isHouse 6 = .ok (.getfield 42, 3) := by decide +kernel
theorem dX11_isHouse_9 : decode cX11_isHouse 9 = .ok (.getfield 154, 3) := by decide +kernel
theorem dX11_isHouse_12 : decode cX11_isHouse 12 = .ok (.if_icmp .ge 7, 3) := by decide +kernel
theorem dX11_isHouse_15 : decode cX11_isHouse 15 = .ok (.iconst 1, 1) := by decide +kernel
theorem dX11_isHouse_16 : decode cX11_isHouse 16 = .ok (.goto 4, 3) := by decide +kernel
theorem dX11_isHouse_19 : decode cX11_isHouse 19 = .ok (.iconst 0, 1) := by decide +kernel
theorem dX11_isHouse_20 : decode cX11_isHouse 20 = .ok (.ireturn, 1) := by decide +kernel
theorem dX11_areTwoHouses_0 : decode cX11_areTwoHouses 0 = .ok (.aload_n 0, 1) := by decide +kernel
theorem dX11_areTwoHouses_1 : decode cX11_areTwoHouses 1 = .ok (.iload_n 1, 1) := by decide +kernel
theorem dX11_areTwoHouses_2 : decode cX11_areTwoHouses 2 = .ok (.invokevirtual 160, 3) := by decide +kernel
theorem dX11_areTwoHouses_5 : decode cX11_areTwoHouses 5 = .ok (.ifCond .eq 20, 3) := by decide +kernel
theorem dX11_areTwoHouses_8 : decode cX11_areTwoHouses 8 = .ok (.aload_n 0, 1) := by decide +kernel
theorem dX11_areTwoHouses_9 : decode cX11_areTwoHouses 9 = .ok (.iload_n 2, 1) := by decide +kernel
theorem dX11_areTwoHouses_10 : decode cX11_areTwoHouses 10 = .ok (.invokevirtual 160, 3) := by decide +kernel
theorem dX11_areTwoHouses_13 : decode cX11_areTwoHouses 13 = .ok (.ifCond .eq 12, 3) := by decide +kernel
theorem dX11_areTwoHouses_16 : decode cX11_areTwoHouses 16 = .ok (.iload_n 1, 1) := by decide +kernel
theorem dX11_areTwoHouses_17 : decode cX11_areTwoHouses 17 = .ok (.iload_n 2, 1) := by decide +kernel
theorem dX11_areTwoHouses_18 : decode cX11_areTwoHouses 18 = .ok (.if_icmp .eq 7, 3) := by decide +kernel
theorem dX11_areTwoHouses_21 : decode cX11_areTwoHouses 21 = .ok (.iconst 1, 1) := by decide +kernel
theorem dX11_areTwoHouses_22 : decode cX11_areTwoHouses 22 = .ok (.goto 4, 3) := by decide +kernel
theorem dX11_areTwoHouses_25 : decode cX11_areTwoHouses 25 = .ok (.iconst 0, 1) := by decide +kernel
theorem dX11_areTwoHouses_26 : decode cX11_areTwoHouses 26 = .ok (.ireturn, 1) := by decide +kernel
theorem dX11_isWire_0 : decode cX11_isWire 0 = .ok (.iload_n 1, 1) := by decide +kernel
theorem dX11_isWire_1 : decode cX11_isWire 1 = .ok (.ifCond .lt 18, 3) := by decide +kernel
theorem dX11_isWire_4 : decode cX11_isWire 4 = .ok (.iload_n 1, 1) := by decide +kernel
theorem dX11_isWire_5 : decode cX11_isWire 5 = .ok (.aload_n 0, 1) := by decide +kernel
theorem dX11_isWire_6 : decode cX11_isWire 6 = .ok (.getfield 42, 3) := by decide +kernel
theorem dX11_isWire_9 : decode cX11_isWire 9 = .ok (.getfield 221, 3) := by decide +kernel
theorem dX11_isWire_12 : decode cX11_isWire 12 = .ok (.if_icmp .ge 7, 3) := by decide +kernel
theorem dX11_isWire_15 : decode cX11_isWire 15 = .ok (.iconst 1, 1) := by decide +kernel
theorem dX11_isWire_16 : decode cX11_isWire 16 = .ok (.goto 4, 3) := by decide +kernel
theorem dX11_isWire_19 : decode cX11_isWire 19 = .ok (.iconst 0, 1) := by decide +kernel
theorem dX11_isWire_20 : decode cX11_isWire 20 = .ok (.ireturn, 1) := by decide +kernel
theorem dX11_mayPass_0 : decode cX11_mayPass 0 = .ok (.iload_n 1, 1) := by decide +kernel
theorem dX11_mayPass_1 : decode cX11_mayPass 1 = .ok (.iconst 1, 1) := by decide +kernel
theorem dX11_mayPass_2 : decode cX11_mayPass 2 = .ok (.if_icmp .lt 28, 3) := by decide +kernel
theorem dX11_mayPass_5 : decode cX11_mayPass 5 = .ok (.iload_n 1, 1) := by decide +kernel
theorem dX11_mayPass_6 : decode cX11_mayPass 6 = .ok (.bipush 60, 2) := by decide +kernel
theorem dX11_mayPass_8 : decode cX11_mayPass 8 = .ok (.if_icmp .gt 22, 3) := by decide +kernel
theorem dX11_mayPass_11 : decode cX11_mayPass 11 = .ok (.aload_n 0, 1) := by decide +kernel
theorem dX11_mayPass_12 : decode cX11_mayPass 12 = .ok (.getfield 42, 3) := by decide +kernel
theorem dX11_mayPass_15 : decode cX11_mayPass 15 = .ok (.getfield 224, 3) := by decide +kernel
theorem dX11_mayPass_18 : decode cX11_mayPass 18 = .ok (.iload_n 1, 1) := by decide +kernel
theorem dX11_mayPass_19 : decode cX11_mayPass 19 = .ok (.iadd, 1) := by decide +kernel
theorem dX11_mayPass_20 : decode cX11_mayPass 20 = .ok (.sipush 999, 3) := by decide +kernel
theorem dX11_mayPass_23 : decode cX11_mayPass 23 = .ok (.if_icmp .gt 7, 3) := by decide +kernel
theorem dX11_mayPass_26 : decode cX11_mayPass 26 = .ok (.iconst 1, 1) := by decide +kernel
theorem dX11_mayPass_27 : decode cX11_mayPass 27 = .ok (.goto 4, 3) := by decide +kernel
theorem dX11_mayPass_30 : decode cX11_mayPass 30 = .ok (.iconst 0, 1) := by decide +kernel
theorem dX11_mayPass_31 : decode cX11_mayPass 31 = .ok (.ireturn, 1) := by decide +kernel
theorem dX11_mayPlay_0 : decode cX11_mayPlay 0 = .ok (.aload_n 0, 1) := by decide +kernel
theorem dX11_mayPlay_1 : decode cX11_mayPlay 1 = .ok (.iload_n 1, 1) := by decide +kernel
theorem dX11_mayPlay_2 : decode cX11_mayPlay 2 = .ok (.iload_n 2, 1) := by decide +kernel
theorem dX11_mayPlay_3 : decode cX11_mayPlay 3 = .ok (.invokevirtual 254, 3) := by decide +kernel
theorem dX11_mayPlay_6 : decode cX11_mayPlay 6 = .ok (.ifCond .eq 26, 3) := by decide +kernel
theorem dX11_mayPlay_9 : decode cX11_mayPlay 9 = .ok (.iload_n 3, 1) := by decide +kernel
theorem dX11_mayPlay_10 : decode cX11_mayPlay 10 = .ok (.invokestatic 245, 3) := by decide +kernel
theorem dX11_mayPlay_13 : decode cX11_mayPlay 13 = .ok (.ifCond .eq 19, 3) := by decide +kernel
theorem dX11_mayPlay_16 : decode cX11_mayPlay 16 = .ok (.aload_n 0, 1) := by decide +kernel
theorem dX11_mayPlay_17 : decode cX11_mayPlay 17 = .ok (.getfield 42, 3) := by decide +kernel
theorem dX11_mayPlay_20 : decode cX11_mayPlay 20 = .ok (.iload_n 1, 1) := by decide +kernel
theorem dX11_mayPlay_21 : decode cX11_mayPlay 21 = .ok (.iload_n 2, 1) := by decide +kernel
theorem dX11_mayPlay_22 : decode cX11_mayPlay 22 = .ok (.invokevirtual 258, 3) := by decide +kernel
theorem dX11_mayPlay_25 : decode cX11_mayPlay 25 = .ok (.ifCond .eq 7, 3) := by decide +kernel
theorem dX11_mayPlay_28 : decode cX11_mayPlay 28 = .ok (.iconst 1, 1) := by decide +kernel
theorem dX11_mayPlay_29 : decode cX11_mayPlay 29 = .ok (.goto 4, 3) := by decide +kernel
theorem dX11_mayPlay_32 : decode cX11_mayPlay 32 = .ok (.iconst 0, 1) := by decide +kernel
theorem dX11_mayPlay_33 : decode cX11_mayPlay 33 = .ok (.ireturn, 1) := by decide +kernel
theorem dX11_couldLay_0 : decode cX11_couldLay 0 = .ok (.aload_n 0, 1) := by decide +kernel
theorem dX11_couldLay_1 : decode cX11_couldLay 1 = .ok (.getfield 42, 3) := by decide +kernel
theorem dX11_couldLay_4 : decode cX11_couldLay 4 = .ok (.getfield 221, 3) := by decide +kernel
theorem dX11_couldLay_7 : decode cX11_couldLay 7 = .ok (.bipush 16, 2) := by decide +kernel
theorem dX11_couldLay_9 : decode cX11_couldLay 9 = .ok (.if_icmp .ge 38, 3) := by decide +kernel
theorem dX11_couldLay_12 : decode cX11_couldLay 12 = .ok (.aload_n 0, 1) := by decide +kernel
theorem dX11_couldLay_13 : decode cX11_couldLay 13 = .ok (.getfield 42, 3) := by decide +kernel
theorem dX11_couldLay_16 : decode cX11_couldLay 16 = .ok (.iload_n 1, 1) := by decide +kernel
theorem dX11_couldLay_17 : decode cX11_couldLay 17 = .ok (.iload_n 2, 1) := by decide +kernel
theorem dX11_couldLay_18 : decode cX11_couldLay 18 = .ok (.invokevirtual 258, 3) := by decide +kernel
theorem dX11_couldLay_21 : decode cX11_couldLay 21 = .ok (.ifCond .eq 26, 3) := by decide +kernel
theorem dX11_couldLay_24 : decode cX11_couldLay 24 = .ok (.aload_n 0, 1) := by decide +kernel
theorem dX11_couldLay_25 : decode cX11_couldLay 25 = .ok (.getfield 42, 3) := by decide +kernel
theorem dX11_couldLay_28 : decode cX11_couldLay 28 = .ok (.getfield 227, 3) := by decide +kernel
theorem dX11_couldLay_31 : decode cX11_couldLay 31 = .ok (.aload_n 0, 1) := by decide +kernel
theorem dX11_couldLay_32 : decode cX11_couldLay 32 = .ok (.getfield 42, 3) := by decide +kernel
theorem dX11_couldLay_35 : decode cX11_couldLay 35 = .ok (.iload_n 1, 1) := by decide +kernel
theorem dX11_couldLay_36 : decode cX11_couldLay 36 = .ok (.iload_n 2, 1) := by decide +kernel
theorem dX11_couldLay_37 : decode cX11_couldLay 37 = .ok (.invokevirtual 261, 3) := by decide +kernel
theorem dX11_couldLay_40 : decode cX11_couldLay 40 = .ok (.if_icmp .lt 7, 3) := by decide +kernel
theorem dX11_couldLay_43 : decode cX11_couldLay 43 = .ok (.iconst 1, 1) := by decide +kernel
theorem dX11_couldLay_44 : decode cX11_couldLay 44 = .ok (.goto 4, 3) := by decide +kernel
theorem dX11_couldLay_47 : decode cX11_couldLay 47 = .ok (.iconst 0, 1) := by decide +kernel
theorem dX11_couldLay_48 : decode cX11_couldLay 48 = .ok (.ireturn, 1) := by decide +kernel
theorem dX11_refuse_0 : decode cX11_refuse 0 = .ok (.aload_n 0, 1) := by decide +kernel
theorem dX11_refuse_1 : decode cX11_refuse 1 = .ok (.getfield 96, 3) := by decide +kernel
theorem dX11_refuse_4 : decode cX11_refuse 4 = .ok (.iload_n 1, 1) := by decide +kernel
theorem dX11_refuse_5 : decode cX11_refuse 5 = .ok (.dup2, 1) := by decide +kernel
theorem dX11_refuse_6 : decode cX11_refuse 6 = .ok (.iaload, 1) := by decide +kernel
theorem dX11_refuse_7 : decode cX11_refuse 7 = .ok (.iconst 1, 1) := by decide +kernel
theorem dX11_refuse_8 : decode cX11_refuse 8 = .ok (.iadd, 1) := by decide +kernel
theorem dX11_refuse_9 : decode cX11_refuse 9 = .ok (.iastore, 1) := by decide +kernel
theorem dX11_refuse_10 : decode cX11_refuse 10 = .ok (.iconst (-1), 1) := by decide +kernel
theorem dX11_refuse_11 : decode cX11_refuse 11 = .ok (.ireturn, 1) := by decide +kernel
theorem dX11_remember_0 : decode cX11_remember 0 = .ok (.aload_n 0, 1) := by decide +kernel
theorem dX11_remember_1 : decode cX11_remember 1 = .ok (.getfield 58, 3) := by decide +kernel
theorem dX11_remember_4 : decode cX11_remember 4 = .ok (.aload_n 0, 1) := by decide +kernel
theorem dX11_remember_5 : decode cX11_remember 5 = .ok (.getfield 42, 3) := by decide +kernel
theorem dX11_remember_8 : decode cX11_remember 8 = .ok (.aload_n 0, 1) := by decide +kernel
theorem dX11_remember_9 : decode cX11_remember 9 = .ok (.getfield 65, 3) := by decide +kernel
theorem dX11_remember_12 : decode cX11_remember 12 = .ok (.getfield 297, 3) := by decide +kernel
theorem dX11_remember_15 : decode cX11_remember 15 = .ok (.invokevirtual 435, 3) := by decide +kernel
theorem dX11_remember_18 : decode cX11_remember 18 = .ok (.return_, 1) := by decide +kernel
theorem dX11_strikeNow_0 : decode cX11_strikeNow 0 = .ok (.aload_n 0, 1) := by decide +kernel
theorem dX11_strikeNow_1 : decode cX11_strikeNow 1 = .ok (.getfield 51, 3) := by decide +kernel
theorem dX11_strikeNow_4 : decode cX11_strikeNow 4 = .ok (.aload_n 0, 1) := by decide +kernel
theorem dX11_strikeNow_5 : decode cX11_strikeNow 5 = .ok (.getfield 42, 3) := by decide +kernel
theorem dX11_strikeNow_8 : decode cX11_strikeNow 8 = .ok (.invokevirtual 185, 3) := by decide +kernel
theorem dX11_strikeNow_11 : decode cX11_strikeNow 11 = .ok (.iload_n 1, 1) := by decide +kernel
theorem dX11_strikeNow_12 : decode cX11_strikeNow 12 = .ok (.iload_n 2, 1) := by decide +kernel
theorem dX11_strikeNow_13 : decode cX11_strikeNow 13 = .ok (.invokevirtual 311, 3) := by decide +kernel
theorem dX11_strikeNow_16 : decode cX11_strikeNow 16 = .ok (.istore_n 3, 1) := by decide +kernel
theorem dX11_strikeNow_17 : decode cX11_strikeNow 17 = .ok (.aload_n 0, 1) := by decide +kernel
theorem dX11_strikeNow_18 : decode cX11_strikeNow 18 = .ok (.getfield 42, 3) := by decide +kernel
theorem dX11_strikeNow_21 : decode cX11_strikeNow 21 = .ok (.iload_n 3, 1) := by decide +kernel
theorem dX11_strikeNow_22 : decode cX11_strikeNow 22 = .ok (.invokevirtual 438, 3) := by decide +kernel
theorem dX11_strikeNow_25 : decode cX11_strikeNow 25 = .ok (.aload_n 0, 1) := by decide +kernel
theorem dX11_strikeNow_26 : decode cX11_strikeNow 26 = .ok (.getfield 65, 3) := by decide +kernel
theorem dX11_strikeNow_29 : decode cX11_strikeNow 29 = .ok (.iload_n 1, 1) := by decide +kernel
theorem dX11_strikeNow_30 : decode cX11_strikeNow 30 = .ok (.iload_n 2, 1) := by decide +kernel
theorem dX11_strikeNow_31 : decode cX11_strikeNow 31 = .ok (.iload_n 3, 1) := by decide +kernel
theorem dX11_strikeNow_32 : decode cX11_strikeNow 32 = .ok (.invokevirtual 441, 3) := by decide +kernel
theorem dX11_strikeNow_35 : decode cX11_strikeNow 35 = .ok (.iload_n 3, 1) := by decide +kernel
theorem dX11_strikeNow_36 : decode cX11_strikeNow 36 = .ok (.ireturn, 1) := by decide +kernel
theorem dX11_strikeByChance_0 : decode cX11_strikeByChance 0 = .ok (.aload_n 0, 1) := by decide +kernel
theorem dX11_strikeByChance_1 : decode cX11_strikeByChance 1 = .ok (.aload_n 0, 1) := by decide +kernel
theorem dX11_strikeByChance_2 : decode cX11_strikeByChance 2 = .ok (.getfield 42, 3) := by decide +kernel
theorem dX11_strikeByChance_5 : decode cX11_strikeByChance 5 = .ok (.invokevirtual 444, 3) := by decide +kernel
theorem dX11_strikeByChance_8 : decode cX11_strikeByChance 8 = .ok (.invokevirtual 287, 3) := by decide +kernel
theorem dX11_strikeByChance_11 : decode cX11_strikeByChance 11 = .ok (.istore_n 1, 1) := by decide +kernel
theorem dX11_strikeByChance_12 : decode cX11_strikeByChance 12 = .ok (.iconst 0, 1) := by decide +kernel
theorem dX11_strikeByChance_13 : decode cX11_strikeByChance 13 = .ok (.istore_n 2, 1) := by decide +kernel
theorem dX11_strikeByChance_14 : decode cX11_strikeByChance 14 = .ok (.iload_n 2, 1) := by decide +kernel
theorem dX11_strikeByChance_15 : decode cX11_strikeByChance 15 = .ok (.aload_n 0, 1) := by decide +kernel
theorem dX11_strikeByChance_16 : decode cX11_strikeByChance 16 = .ok (.getfield 42, 3) := by decide +kernel
theorem dX11_strikeByChance_19 : decode cX11_strikeByChance 19 = .ok (.getfield 154, 3) := by decide +kernel
theorem dX11_strikeByChance_22 : decode cX11_strikeByChance 22 = .ok (.iconst 1, 1) := by decide +kernel
theorem dX11_strikeByChance_23 : decode cX11_strikeByChance 23 = .ok (.isub, 1) := by decide +kernel
theorem dX11_strikeByChance_24 : decode cX11_strikeByChance 24 = .ok (.if_icmp .ge 34, 3) := by decide +kernel
theorem dX11_strikeByChance_27 : decode cX11_strikeByChance 27 = .ok (.iload_n 1, 1) := by decide +kernel
theorem dX11_strikeByChance_28 : decode cX11_strikeByChance 28 = .ok (.aload_n 0, 1) := by decide +kernel
theorem dX11_strikeByChance_29 : decode cX11_strikeByChance 29 = .ok (.getfield 42, 3) := by decide +kernel
theorem dX11_strikeByChance_32 : decode cX11_strikeByChance 32 = .ok (.getfield 173, 3) := by decide +kernel
theorem dX11_strikeByChance_35 : decode cX11_strikeByChance 35 = .ok (.iload_n 2, 1) := by decide +kernel
theorem dX11_strikeByChance_36 : decode cX11_strikeByChance 36 = .ok (.iaload, 1) := by decide +kernel
theorem dX11_strikeByChance_37 : decode cX11_strikeByChance 37 = .ok (.if_icmp .lt 21, 3) := by decide +kernel
theorem dX11_strikeByChance_40 : decode cX11_strikeByChance 40 = .ok (.iload_n 1, 1) := by decide +kernel
theorem dX11_strikeByChance_41 : decode cX11_strikeByChance 41 = .ok (.aload_n 0, 1) := by decide +kernel
theorem dX11_strikeByChance_42 : decode cX11_strikeByChance 42 = .ok (.getfield 42, 3) := by decide +kernel
theorem dX11_strikeByChance_45 : decode cX11_strikeByChance 45 = .ok (.getfield 173, 3) := by decide +kernel
theorem dX11_strikeByChance_48 : decode cX11_strikeByChance 48 = .ok (.iload_n 2, 1) := by decide +kernel
theorem dX11_strikeByChance_49 : decode cX11_strikeByChance 49 = .ok (.iaload, 1) := by decide +kernel
theorem dX11_strikeByChance_50 : decode cX11_strikeByChance 50 = .ok (.isub, 1) := by decide +kernel
theorem dX11_strikeByChance_51 : decode cX11_strikeByChance 51 = .ok (.istore_n 1, 1) := by decide +kernel
theorem dX11_strikeByChance_52 : decode cX11_strikeByChance 52 = .ok (.iinc 2 1, 3) := by decide +kernel
theorem dX11_strikeByChance_55 : decode cX11_strikeByChance 55 = .ok (.goto (-41), 3) := by decide +kernel
theorem dX11_strikeByChance_58 : decode cX11_strikeByChance 58 = .ok (.aload_n 0, 1) := by decide +kernel
theorem dX11_strikeByChance_59 : decode cX11_strikeByChance 59 = .ok (.iload_n 2, 1) := by decide +kernel
theorem dX11_strikeByChance_60 : decode cX11_strikeByChance 60 = .ok (.aload_n 0, 1) := by decide +kernel
theorem dX11_strikeByChance_61 : decode cX11_strikeByChance 61 = .ok (.bipush 99, 2) := by decide +kernel
theorem dX11_strikeByChance_63 : decode cX11_strikeByChance 63 = .ok (.invokevirtual 287, 3) := by decide +kernel
theorem dX11_strikeByChance_66 : decode cX11_strikeByChance 66 = .ok (.iconst 1, 1) := by decide +kernel
theorem dX11_strikeByChance_67 : decode cX11_strikeByChance 67 = .ok (.iadd, 1) := by decide +kernel
theorem dX11_strikeByChance_68 : decode cX11_strikeByChance 68 = .ok (.invokevirtual 251, 3) := by decide +kernel
theorem dX11_strikeByChance_71 : decode cX11_strikeByChance 71 = .ok (.pop, 1) := by decide +kernel
theorem dX11_strikeByChance_72 : decode cX11_strikeByChance 72 = .ok (.return_, 1) := by decide +kernel
theorem dX11_draw_0 : decode cX11_draw 0 = .ok (.aload_n 0, 1) := by decide +kernel
theorem dX11_draw_1 : decode cX11_draw 1 = .ok (.aload_n 0, 1) := by decide +kernel
theorem dX11_draw_2 : decode cX11_draw 2 = .ok (.getfield 284, 3) := by decide +kernel
theorem dX11_draw_5 : decode cX11_draw 5 = .ok (.ldc2_w 447, 3) := by decide +kernel
theorem dX11_draw_8 : decode cX11_draw 8 = .ok (.lmul, 1) := by decide +kernel
theorem dX11_draw_9 : decode cX11_draw 9 = .ok (.ldc2_w 449, 3) := by decide +kernel
theorem dX11_draw_12 : decode cX11_draw 12 = .ok (.ladd, 1) := by decide +kernel
theorem dX11_draw_13 : decode cX11_draw 13 = .ok (.putfield 284, 3) := by decide +kernel
theorem dX11_draw_16 : decode cX11_draw 16 = .ok (.iload_n 1, 1) := by decide +kernel
theorem dX11_draw_17 : decode cX11_draw 17 = .ok (.iconst 1, 1) := by decide +kernel
theorem dX11_draw_18 : decode cX11_draw 18 = .ok (.if_icmp .ge 7, 3) := by decide +kernel
theorem dX11_draw_21 : decode cX11_draw 21 = .ok (.iconst 0, 1) := by decide +kernel
theorem dX11_draw_22 : decode cX11_draw 22 = .ok (.goto 14, 3) := by decide +kernel
theorem dX11_draw_25 : decode cX11_draw 25 = .ok (.aload_n 0, 1) := by decide +kernel
theorem dX11_draw_26 : decode cX11_draw 26 = .ok (.getfield 284, 3) := by decide +kernel
theorem dX11_draw_29 : decode cX11_draw 29 = .ok (.bipush 33, 2) := by decide +kernel
theorem dX11_draw_31 : decode cX11_draw 31 = .ok (.lushr, 1) := by decide +kernel
theorem dX11_draw_32 : decode cX11_draw 32 = .ok (.iload_n 1, 1) := by decide +kernel
theorem dX11_draw_33 : decode cX11_draw 33 = .ok (.i2l, 1) := by decide +kernel
theorem dX11_draw_34 : decode cX11_draw 34 = .ok (.lrem, 1) := by decide +kernel
theorem dX11_draw_35 : decode cX11_draw 35 = .ok (.l2i, 1) := by decide +kernel
theorem dX11_draw_36 : decode cX11_draw 36 = .ok (.ireturn, 1) := by decide +kernel
theorem dX11_liveWith_0 : decode cX11_liveWith 0 = .ok (.aload_n 0, 1) := by decide +kernel
theorem dX11_liveWith_1 : decode cX11_liveWith 1 = .ok (.getfield 42, 3) := by decide +kernel
theorem dX11_liveWith_4 : decode cX11_liveWith 4 = .ok (.iload_n 1, 1) := by decide +kernel
theorem dX11_liveWith_5 : decode cX11_liveWith 5 = .ok (.iload_n 2, 1) := by decide +kernel
theorem dX11_liveWith_6 : decode cX11_liveWith 6 = .ok (.invokevirtual 264, 3) := by decide +kernel
theorem dX11_liveWith_9 : decode cX11_liveWith 9 = .ok (.aload_n 0, 1) := by decide +kernel
theorem dX11_liveWith_10 : decode cX11_liveWith 10 = .ok (.getfield 42, 3) := by decide +kernel
theorem dX11_liveWith_13 : decode cX11_liveWith 13 = .ok (.invokevirtual 185, 3) := by decide +kernel
theorem dX11_liveWith_16 : decode cX11_liveWith 16 = .ok (.iconst 1, 1) := by decide +kernel
theorem dX11_liveWith_17 : decode cX11_liveWith 17 = .ok (.aload_n 0, 1) := by decide +kernel
theorem dX11_liveWith_18 : decode cX11_liveWith 18 = .ok (.getfield 42, 3) := by decide +kernel
theorem dX11_liveWith_21 : decode cX11_liveWith 21 = .ok (.getfield 221, 3) := by decide +kernel
theorem dX11_liveWith_24 : decode cX11_liveWith 24 = .ok (.ishl, 1) := by decide +kernel
theorem dX11_liveWith_25 : decode cX11_liveWith 25 = .ok (.ior, 1) := by decide +kernel
theorem dX11_liveWith_26 : decode cX11_liveWith 26 = .ok (.ireturn, 1) := by decide +kernel
theorem dX11_greatestBorne_0 : decode cX11_greatestBorne 0 = .ok (.aload_n 0, 1) := by decide +kernel
theorem dX11_greatestBorne_1 : decode cX11_greatestBorne 1 = .ok (.getfield 42, 3) := by decide +kernel
theorem dX11_greatestBorne_4 : decode cX11_greatestBorne 4 = .ok (.invokevirtual 185, 3) := by decide +kernel
theorem dX11_greatestBorne_7 : decode cX11_greatestBorne 7 = .ok (.istore_n 1, 1) := by decide +kernel
theorem dX11_greatestBorne_8 : decode cX11_greatestBorne 8 = .ok (.aload_n 0, 1) := by decide +kernel
theorem dX11_greatestBorne_9 : decode cX11_greatestBorne 9 = .ok (.getfield 42, 3) := by decide +kernel
theorem dX11_greatestBorne_12 : decode cX11_greatestBorne 12 = .ok (.invokevirtual 345, 3) := by decide +kernel
theorem dX11_greatestBorne_15 : decode cX11_greatestBorne 15 = .ok (.iconst 1, 1) := by decide +kernel
theorem dX11_greatestBorne_16 : decode cX11_greatestBorne 16 = .ok (.iadd, 1) := by decide +kernel
theorem dX11_greatestBorne_17 : decode cX11_greatestBorne 17 = .ok (.istore_n 2, 1) := by decide +kernel
theorem dX11_greatestBorne_18 : decode cX11_greatestBorne 18 = .ok (.iload_n 2, 1) := by decide +kernel
theorem dX11_greatestBorne_19 : decode cX11_greatestBorne 19 = .ok (.sipush 999, 3) := by decide +kernel
theorem dX11_greatestBorne_22 : decode cX11_greatestBorne 22 = .ok (.if_icmp .gt 23, 3) := by decide +kernel
theorem dX11_greatestBorne_25 : decode cX11_greatestBorne 25 = .ok (.aload_n 0, 1) := by decide +kernel
theorem dX11_greatestBorne_26 : decode cX11_greatestBorne 26 = .ok (.iload_n 1, 1) := by decide +kernel
theorem dX11_greatestBorne_27 : decode cX11_greatestBorne 27 = .ok (.iload_n 2, 1) := by decide +kernel
theorem dX11_greatestBorne_28 : decode cX11_greatestBorne 28 = .ok (.invokevirtual 342, 3) := by decide +kernel
theorem dX11_greatestBorne_31 : decode cX11_greatestBorne 31 = .ok (.iconst (-1), 1) := by decide +kernel
theorem dX11_greatestBorne_32 : decode cX11_greatestBorne 32 = .ok (.if_icmp .eq 7, 3) := by decide +kernel
theorem dX11_greatestBorne_35 : decode cX11_greatestBorne 35 = .ok (.iload_n 2, 1) := by decide +kernel
theorem dX11_greatestBorne_36 : decode cX11_greatestBorne 36 = .ok (.iconst 1, 1) := by decide +kernel
theorem dX11_greatestBorne_37 : decode cX11_greatestBorne 37 = .ok (.isub, 1) := by decide +kernel
theorem dX11_greatestBorne_38 : decode cX11_greatestBorne 38 = .ok (.ireturn, 1) := by decide +kernel
theorem dX11_greatestBorne_39 : decode cX11_greatestBorne 39 = .ok (.iinc 2 1, 3) := by decide +kernel
theorem dX11_greatestBorne_42 : decode cX11_greatestBorne 42 = .ok (.goto (-24), 3) := by decide +kernel
theorem dX11_greatestBorne_45 : decode cX11_greatestBorne 45 = .ok (.sipush 999, 3) := by decide +kernel
theorem dX11_greatestBorne_48 : decode cX11_greatestBorne 48 = .ok (.ireturn, 1) := by decide +kernel
theorem dX11_weakestBy_0 : decode cX11_weakestBy 0 = .ok (.iconst 0, 1) := by decide +kernel
theorem dX11_weakestBy_1 : decode cX11_weakestBy 1 = .ok (.istore_n 3, 1) := by decide +kernel
theorem dX11_weakestBy_2 : decode cX11_weakestBy 2 = .ok (.iload_n 3, 1) := by decide +kernel
theorem dX11_weakestBy_3 : decode cX11_weakestBy 3 = .ok (.aload_n 0, 1) := by decide +kernel
theorem dX11_weakestBy_4 : decode cX11_weakestBy 4 = .ok (.getfield 42, 3) := by decide +kernel
theorem dX11_weakestBy_7 : decode cX11_weakestBy 7 = .ok (.getfield 154, 3) := by decide +kernel
theorem dX11_weakestBy_10 : decode cX11_weakestBy 10 = .ok (.if_icmp .ge 24, 3) := by decide +kernel
theorem dX11_weakestBy_13 : decode cX11_weakestBy 13 = .ok (.aload_n 0, 1) := by decide +kernel
theorem dX11_weakestBy_14 : decode cX11_weakestBy 14 = .ok (.getfield 51, 3) := by decide +kernel
theorem dX11_weakestBy_17 : decode cX11_weakestBy 17 = .ok (.iload_n 1, 1) := by decide +kernel
theorem dX11_weakestBy_18 : decode cX11_weakestBy 18 = .ok (.iload_n 3, 1) := by decide +kernel
theorem dX11_weakestBy_19 : decode cX11_weakestBy 19 = .ok (.iload_n 2, 1) := by decide +kernel
theorem dX11_weakestBy_20 : decode cX11_weakestBy 20 = .ok (.invokevirtual 311, 3) := by decide +kernel
theorem dX11_weakestBy_23 : decode cX11_weakestBy 23 = .ok (.ifCond .eq 5, 3) := by decide +kernel
theorem dX11_weakestBy_26 : decode cX11_weakestBy 26 = .ok (.iload_n 3, 1) := by decide +kernel
theorem dX11_weakestBy_27 : decode cX11_weakestBy 27 = .ok (.ireturn, 1) := by decide +kernel
theorem dX11_weakestBy_28 : decode cX11_weakestBy 28 = .ok (.iinc 3 1, 3) := by decide +kernel
theorem dX11_weakestBy_31 : decode cX11_weakestBy 31 = .ok (.goto (-29), 3) := by decide +kernel
theorem dX11_weakestBy_34 : decode cX11_weakestBy 34 = .ok (.iconst (-1), 1) := by decide +kernel
theorem dX11_weakestBy_35 : decode cX11_weakestBy 35 = .ok (.ireturn, 1) := by decide +kernel
theorem dX11_standingAlike_0 : decode cX11_standingAlike 0 = .ok (.aload_n 0, 1) := by decide +kernel
theorem dX11_standingAlike_1 : decode cX11_standingAlike 1 = .ok (.getfield 42, 3) := by decide +kernel
theorem dX11_standingAlike_4 : decode cX11_standingAlike 4 = .ok (.invokevirtual 185, 3) := by decide +kernel
theorem dX11_standingAlike_7 : decode cX11_standingAlike 7 = .ok (.istore_n 3, 1) := by decide +kernel
theorem dX11_standingAlike_8 : decode cX11_standingAlike 8 = .ok (.iload_n 1, 1) := by decide +kernel
theorem dX11_standingAlike_9 : decode cX11_standingAlike 9 = .ok (.istore 4, 2) := by decide +kernel
theorem dX11_standingAlike_11 : decode cX11_standingAlike 11 = .ok (.iconst 0, 1) := by decide +kernel
theorem dX11_standingAlike_12 : decode cX11_standingAlike 12 = .ok (.istore 5, 2) := by decide +kernel
theorem dX11_standingAlike_14 : decode cX11_standingAlike 14 = .ok (.iload 5, 2) := by decide +kernel
theorem dX11_standingAlike_16 : decode cX11_standingAlike 16 = .ok (.aload_n 0, 1) := by decide +kernel
theorem dX11_standingAlike_17 : decode cX11_standingAlike 17 = .ok (.getfield 42, 3) := by decide +kernel
theorem dX11_standingAlike_20 : decode cX11_standingAlike 20 = .ok (.getfield 154, 3) := by decide +kernel
theorem dX11_standingAlike_23 : decode cX11_standingAlike 23 = .ok (.if_icmp .ge 95, 3) := by decide +kernel
theorem dX11_standingAlike_26 : decode cX11_standingAlike 26 = .ok (.iload 4, 2) := by decide +kernel
theorem dX11_standingAlike_28 : decode cX11_standingAlike 28 = .ok (.ifCond .eq 90, 3) := by decide +kernel
theorem dX11_standingAlike_31 : decode cX11_standingAlike 31 = .ok (.aload_n 0, 1) := by decide +kernel
theorem dX11_standingAlike_32 : decode cX11_standingAlike 32 = .ok (.getfield 51, 3) := by decide +kernel
theorem dX11_standingAlike_35 : decode cX11_standingAlike 35 = .ok (.iload_n 3, 1) := by decide +kernel
theorem dX11_standingAlike_36 : decode cX11_standingAlike 36 = .ok (.iload 5, 2) := by decide +kernel
theorem dX11_standingAlike_38 : decode cX11_standingAlike 38 = .ok (.iload_n 2, 1) := by decide +kernel
theorem dX11_standingAlike_39 : decode cX11_standingAlike 39 = .ok (.invokevirtual 311, 3) := by decide +kernel
theorem dX11_standingAlike_42 : decode cX11_standingAlike 42 = .ok (.istore 6, 2) := by decide +kernel
theorem dX11_standingAlike_44 : decode cX11_standingAlike 44 = .ok (.iconst 0, 1) := by decide +kernel
theorem dX11_standingAlike_45 : decode cX11_standingAlike 45 = .ok (.istore 7, 2) := by decide +kernel
theorem dX11_standingAlike_47 : decode cX11_standingAlike 47 = .ok (.iload 7, 2) := by decide +kernel
theorem dX11_standingAlike_49 : decode cX11_standingAlike 49 = .ok (.aload_n 0, 1) := by decide +kernel
theorem dX11_standingAlike_50 : decode cX11_standingAlike 50 = .ok (.getfield 42, 3) := by decide +kernel
theorem dX11_standingAlike_53 : decode cX11_standingAlike 53 = .ok (.getfield 154, 3) := by decide +kernel
theorem dX11_standingAlike_56 : decode cX11_standingAlike 56 = .ok (.if_icmp .ge 56, 3) := by decide +kernel
theorem dX11_standingAlike_59 : decode cX11_standingAlike 59 = .ok (.iload 6, 2) := by decide +kernel
theorem dX11_standingAlike_61 : decode cX11_standingAlike 61 = .ok (.ifCond .eq 51, 3) := by decide +kernel
theorem dX11_standingAlike_64 : decode cX11_standingAlike 64 = .ok (.iload 6, 2) := by decide +kernel
theorem dX11_standingAlike_66 : decode cX11_standingAlike 66 = .ok (.iconst 1, 1) := by decide +kernel
theorem dX11_standingAlike_67 : decode cX11_standingAlike 67 = .ok (.iload 7, 2) := by decide +kernel
theorem dX11_standingAlike_69 : decode cX11_standingAlike 69 = .ok (.ishl, 1) := by decide +kernel
theorem dX11_standingAlike_70 : decode cX11_standingAlike 70 = .ok (.if_icmp .ne 25, 3) := by decide +kernel
theorem dX11_standingAlike_73 : decode cX11_standingAlike 73 = .ok (.aload_n 0, 1) := by decide +kernel
theorem dX11_standingAlike_74 : decode cX11_standingAlike 74 = .ok (.getfield 51, 3) := by decide +kernel
theorem dX11_standingAlike_77 : decode cX11_standingAlike 77 = .ok (.getfield 315, 3) := by decide +kernel
theorem dX11_standingAlike_80 : decode cX11_standingAlike 80 = .ok (.iload 7, 2) := by decide +kernel
theorem dX11_standingAlike_82 : decode cX11_standingAlike 82 = .ok (.iaload, 1) := by decide +kernel
theorem dX11_standingAlike_83 : decode cX11_standingAlike 83 = .ok (.aload_n 0, 1) := by decide +kernel
theorem dX11_standingAlike_84 : decode cX11_standingAlike 84 = .ok (.getfield 42, 3) := by decide +kernel
theorem dX11_standingAlike_87 : decode cX11_standingAlike 87 = .ok (.iload 7, 2) := by decide +kernel
theorem dX11_standingAlike_89 : decode cX11_standingAlike 89 = .ok (.invokevirtual 271, 3) := by decide +kernel
theorem dX11_standingAlike_92 : decode cX11_standingAlike 92 = .ok (.if_icmp .le 14, 3) := by decide +kernel
theorem dX11_standingAlike_95 : decode cX11_standingAlike 95 = .ok (.iload 4, 2) := by decide +kernel
theorem dX11_standingAlike_97 : decode cX11_standingAlike 97 = .ok (.iconst 1, 1) := by decide +kernel
theorem dX11_standingAlike_98 : decode cX11_standingAlike 98 = .ok (.iload 7, 2) := by decide +kernel
theorem dX11_standingAlike_100 : decode cX11_standingAlike 100 = .ok (.ishl, 1) := by decide +kernel
theorem dX11_standingAlike_101 : decode cX11_standingAlike 101 = .ok (.iconst (-1), 1) := by decide +kernel
theorem dX11_standingAlike_102 : decode cX11_standingAlike 102 = .ok (.ixor, 1) := by decide +kernel
theorem dX11_standingAlike_103 : decode cX11_standingAlike 103 = .ok (.iand, 1) := by decide +kernel
theorem dX11_standingAlike_104 : decode cX11_standingAlike 104 = .ok (.istore 4, 2) := by decide +kernel
theorem dX11_standingAlike_106 : decode cX11_standingAlike 106 = .ok (.iinc 7 1, 3) := by decide +kernel
theorem dX11_standingAlike_109 : decode cX11_standingAlike 109 = .ok (.goto (-62), 3) := by decide +kernel
theorem dX11_standingAlike_112 : decode cX11_standingAlike 112 = .ok (.iinc 5 1, 3) := by decide +kernel
theorem dX11_standingAlike_115 : decode cX11_standingAlike 115 = .ok (.goto (-101), 3) := by decide +kernel
theorem dX11_standingAlike_118 : decode cX11_standingAlike 118 = .ok (.iload 4, 2) := by decide +kernel
theorem dX11_standingAlike_120 : decode cX11_standingAlike 120 = .ok (.ireturn, 1) := by decide +kernel
theorem dX11_standingAfresh_0 : decode cX11_standingAfresh 0 = .ok (.aload_n 0, 1) := by decide +kernel
theorem dX11_standingAfresh_1 : decode cX11_standingAfresh 1 = .ok (.getfield 42, 3) := by decide +kernel
theorem dX11_standingAfresh_4 : decode cX11_standingAfresh 4 = .ok (.invokevirtual 185, 3) := by decide +kernel
theorem dX11_standingAfresh_7 : decode cX11_standingAfresh 7 = .ok (.istore_n 3, 1) := by decide +kernel
theorem dX11_standingAfresh_8 : decode cX11_standingAfresh 8 = .ok (.iload_n 1, 1) := by decide +kernel
theorem dX11_standingAfresh_9 : decode cX11_standingAfresh 9 = .ok (.istore 4, 2) := by decide +kernel
theorem dX11_standingAfresh_11 : decode cX11_standingAfresh 11 = .ok (.iconst 0, 1) := by decide +kernel
theorem dX11_standingAfresh_12 : decode cX11_standingAfresh 12 = .ok (.istore 5, 2) := by decide +kernel
theorem dX11_standingAfresh_14 : decode cX11_standingAfresh 14 = .ok (.iload 5, 2) := by decide +kernel
theorem dX11_standingAfresh_16 : decode cX11_standingAfresh 16 = .ok (.aload_n 0, 1) := by decide +kernel
theorem dX11_standingAfresh_17 : decode cX11_standingAfresh 17 = .ok (.getfield 42, 3) := by decide +kernel
theorem dX11_standingAfresh_20 : decode cX11_standingAfresh 20 = .ok (.getfield 154, 3) := by decide +kernel
theorem dX11_standingAfresh_23 : decode cX11_standingAfresh 23 = .ok (.if_icmp .ge 85, 3) := by decide +kernel
theorem dX11_standingAfresh_26 : decode cX11_standingAfresh 26 = .ok (.iload_n 1, 1) := by decide +kernel
theorem dX11_standingAfresh_27 : decode cX11_standingAfresh 27 = .ok (.iload 5, 2) := by decide +kernel
theorem dX11_standingAfresh_29 : decode cX11_standingAfresh 29 = .ok (.invokestatic 215, 3) := by decide +kernel
theorem dX11_standingAfresh_32 : decode cX11_standingAfresh 32 = .ok (.ifCond .ne 6, 3) := by decide +kernel
theorem dX11_standingAfresh_35 : decode cX11_standingAfresh 35 = .ok (.goto 67, 3) := by decide +kernel
theorem dX11_standingAfresh_38 : decode cX11_standingAfresh 38 = .ok (.aload_n 0, 1) := by decide +kernel
theorem dX11_standingAfresh_39 : decode cX11_standingAfresh 39 = .ok (.getfield 42, 3) := by decide +kernel
theorem dX11_standingAfresh_42 : decode cX11_standingAfresh 42 = .ok (.getfield 176, 3) := by decide +kernel
theorem dX11_standingAfresh_45 : decode cX11_standingAfresh 45 = .ok (.iload 5, 2) := by decide +kernel
theorem dX11_standingAfresh_47 : decode cX11_standingAfresh 47 = .ok (.iaload, 1) := by decide +kernel
theorem dX11_standingAfresh_48 : decode cX11_standingAfresh 48 = .ok (.istore 6, 2) := by decide +kernel
theorem dX11_standingAfresh_50 : decode cX11_standingAfresh 50 = .ok (.aload_n 0, 1) := by decide +kernel
theorem dX11_standingAfresh_51 : decode cX11_standingAfresh 51 = .ok (.getfield 42, 3) := by decide +kernel
theorem dX11_standingAfresh_54 : decode cX11_standingAfresh 54 = .ok (.getfield 176, 3) := by decide +kernel
theorem dX11_standingAfresh_57 : decode cX11_standingAfresh 57 = .ok (.iload 5, 2) := by decide +kernel
theorem dX11_standingAfresh_59 : decode cX11_standingAfresh 59 = .ok (.aload_n 0, 1) := by decide +kernel
theorem dX11_standingAfresh_60 : decode cX11_standingAfresh 60 = .ok (.getfield 42, 3) := by decide +kernel
theorem dX11_standingAfresh_63 : decode cX11_standingAfresh 63 = .ok (.iload 5, 2) := by decide +kernel
theorem dX11_standingAfresh_65 : decode cX11_standingAfresh 65 = .ok (.invokevirtual 271, 3) := by decide +kernel
theorem dX11_standingAfresh_68 : decode cX11_standingAfresh 68 = .ok (.iastore, 1) := by decide +kernel
theorem dX11_standingAfresh_69 : decode cX11_standingAfresh 69 = .ok (.aload_n 0, 1) := by decide +kernel
theorem dX11_standingAfresh_70 : decode cX11_standingAfresh 70 = .ok (.iload_n 3, 1) := by decide +kernel
theorem dX11_standingAfresh_71 : decode cX11_standingAfresh 71 = .ok (.iload_n 2, 1) := by decide +kernel
theorem dX11_standingAfresh_72 : decode cX11_standingAfresh 72 = .ok (.invokevirtual 342, 3) := by decide +kernel
theorem dX11_standingAfresh_75 : decode cX11_standingAfresh 75 = .ok (.iconst (-1), 1) := by decide +kernel
theorem dX11_standingAfresh_76 : decode cX11_standingAfresh 76 = .ok (.if_icmp .eq 14, 3) := by decide +kernel
theorem dX11_standingAfresh_79 : decode cX11_standingAfresh 79 = .ok (.iload 4, 2) := by decide +kernel
theorem dX11_standingAfresh_81 : decode cX11_standingAfresh 81 = .ok (.iconst 1, 1) := by decide +kernel
theorem dX11_standingAfresh_82 : decode cX11_standingAfresh 82 = .ok (.iload 5, 2) := by decide +kernel
theorem dX11_standingAfresh_84 : decode cX11_standingAfresh 84 = .ok (.ishl, 1) := by decide +kernel
theorem dX11_standingAfresh_85 : decode cX11_standingAfresh 85 = .ok (.iconst (-1), 1) := by decide +kernel
theorem dX11_standingAfresh_86 : decode cX11_standingAfresh 86 = .ok (.ixor, 1) := by decide +kernel
theorem dX11_standingAfresh_87 : decode cX11_standingAfresh 87 = .ok (.iand, 1) := by decide +kernel
theorem dX11_standingAfresh_88 : decode cX11_standingAfresh 88 = .ok (.istore 4, 2) := by decide +kernel
theorem dX11_standingAfresh_90 : decode cX11_standingAfresh 90 = .ok (.aload_n 0, 1) := by decide +kernel
theorem dX11_standingAfresh_91 : decode cX11_standingAfresh 91 = .ok (.getfield 42, 3) := by decide +kernel
theorem dX11_standingAfresh_94 : decode cX11_standingAfresh 94 = .ok (.getfield 176, 3) := by decide +kernel
theorem dX11_standingAfresh_97 : decode cX11_standingAfresh 97 = .ok (.iload 5, 2) := by decide +kernel
theorem dX11_standingAfresh_99 : decode cX11_standingAfresh 99 = .ok (.iload 6, 2) := by decide +kernel
theorem dX11_standingAfresh_101 : decode cX11_standingAfresh 101 = .ok (.iastore, 1) := by decide +kernel
theorem dX11_standingAfresh_102 : decode cX11_standingAfresh 102 = .ok (.iinc 5 1, 3) := by decide +kernel
theorem dX11_standingAfresh_105 : decode cX11_standingAfresh 105 = .ok (.goto (-91), 3) := by decide +kernel
theorem dX11_standingAfresh_108 : decode cX11_standingAfresh 108 = .ok (.iload 4, 2) := by decide +kernel
theorem dX11_standingAfresh_110 : decode cX11_standingAfresh 110 = .ok (.ireturn, 1) := by decide +kernel
theorem dX11_lowest_0 : decode cX11_lowest 0 = .ok (.iconst 0, 1) := by decide +kernel
theorem dX11_lowest_1 : decode cX11_lowest 1 = .ok (.istore_n 2, 1) := by decide +kernel
theorem dX11_lowest_2 : decode cX11_lowest 2 = .ok (.iload_n 2, 1) := by decide +kernel
theorem dX11_lowest_3 : decode cX11_lowest 3 = .ok (.aload_n 0, 1) := by decide +kernel
theorem dX11_lowest_4 : decode cX11_lowest 4 = .ok (.getfield 42, 3) := by decide +kernel
theorem dX11_lowest_7 : decode cX11_lowest 7 = .ok (.getfield 154, 3) := by decide +kernel
theorem dX11_lowest_10 : decode cX11_lowest 10 = .ok (.if_icmp .ge 20, 3) := by decide +kernel
theorem dX11_lowest_13 : decode cX11_lowest 13 = .ok (.iload_n 1, 1) := by decide +kernel
theorem dX11_lowest_14 : decode cX11_lowest 14 = .ok (.iload_n 2, 1) := by decide +kernel
theorem dX11_lowest_15 : decode cX11_lowest 15 = .ok (.invokestatic 215, 3) := by decide +kernel
theorem dX11_lowest_18 : decode cX11_lowest 18 = .ok (.iconst 1, 1) := by decide +kernel
theorem dX11_lowest_19 : decode cX11_lowest 19 = .ok (.if_icmp .ne 5, 3) := by decide +kernel
theorem dX11_lowest_22 : decode cX11_lowest 22 = .ok (.iload_n 2, 1) := by decide +kernel
theorem dX11_lowest_23 : decode cX11_lowest 23 = .ok (.ireturn, 1) := by decide +kernel
theorem dX11_lowest_24 : decode cX11_lowest 24 = .ok (.iinc 2 1, 3) := by decide +kernel
theorem dX11_lowest_27 : decode cX11_lowest 27 = .ok (.goto (-25), 3) := by decide +kernel
theorem dX11_lowest_30 : decode cX11_lowest 30 = .ok (.iconst (-1), 1) := by decide +kernel
theorem dX11_lowest_31 : decode cX11_lowest 31 = .ok (.ireturn, 1) := by decide +kernel
theorem dX11_rings_0 : decode cX11_rings 0 = .ok (.aload_n 0, 1) := by decide +kernel
theorem dX11_rings_1 : decode cX11_rings 1 = .ok (.getfield 42, 3) := by decide +kernel
theorem dX11_rings_4 : decode cX11_rings 4 = .ok (.invokevirtual 185, 3) := by decide +kernel
theorem dX11_rings_7 : decode cX11_rings 7 = .ok (.istore_n 1, 1) := by decide +kernel
theorem dX11_rings_8 : decode cX11_rings 8 = .ok (.iconst 0, 1) := by decide +kernel
theorem dX11_rings_9 : decode cX11_rings 9 = .ok (.istore_n 2, 1) := by decide +kernel
theorem dX11_rings_10 : decode cX11_rings 10 = .ok (.iconst 0, 1) := by decide +kernel
theorem dX11_rings_11 : decode cX11_rings 11 = .ok (.istore_n 3, 1) := by decide +kernel
theorem dX11_rings_12 : decode cX11_rings 12 = .ok (.iload_n 3, 1) := by decide +kernel
theorem dX11_rings_13 : decode cX11_rings 13 = .ok (.aload_n 0, 1) := by decide +kernel
theorem dX11_rings_14 : decode cX11_rings 14 = .ok (.getfield 42, 3) := by decide +kernel
theorem dX11_rings_17 : decode cX11_rings 17 = .ok (.getfield 154, 3) := by decide +kernel
theorem dX11_rings_20 : decode cX11_rings 20 = .ok (.if_icmp .ge 30, 3) := by decide +kernel
theorem dX11_rings_23 : decode cX11_rings 23 = .ok (.aload_n 0, 1) := by decide +kernel
theorem dX11_rings_24 : decode cX11_rings 24 = .ok (.getfield 42, 3) := by decide +kernel
theorem dX11_rings_27 : decode cX11_rings 27 = .ok (.iload_n 1, 1) := by decide +kernel
theorem dX11_rings_28 : decode cX11_rings 28 = .ok (.iload_n 3, 1) := by decide +kernel
theorem dX11_rings_29 : decode cX11_rings 29 = .ok (.invokevirtual 369, 3) := by decide +kernel
theorem dX11_rings_32 : decode cX11_rings 32 = .ok (.iconst 1, 1) := by decide +kernel
theorem dX11_rings_33 : decode cX11_rings 33 = .ok (.iload_n 3, 1) := by decide +kernel
theorem dX11_rings_34 : decode cX11_rings 34 = .ok (.ishl, 1) := by decide +kernel
theorem dX11_rings_35 : decode cX11_rings 35 = .ok (.iconst 1, 1) := by decide +kernel
theorem dX11_rings_36 : decode cX11_rings 36 = .ok (.isub, 1) := by decide +kernel
theorem dX11_rings_37 : decode cX11_rings 37 = .ok (.iand, 1) := by decide +kernel
theorem dX11_rings_38 : decode cX11_rings 38 = .ok (.ifCond .ne 6, 3) := by decide +kernel
theorem dX11_rings_41 : decode cX11_rings 41 = .ok (.iinc 2 1, 3) := by decide +kernel
theorem dX11_rings_44 : decode cX11_rings 44 = .ok (.iinc 3 1, 3) := by decide +kernel
theorem dX11_rings_47 : decode cX11_rings 47 = .ok (.goto (-35), 3) := by decide +kernel
theorem dX11_rings_50 : decode cX11_rings 50 = .ok (.iload_n 1, 1) := by decide +kernel
theorem dX11_rings_51 : decode cX11_rings 51 = .ok (.invokestatic 193, 3) := by decide +kernel
theorem dX11_rings_54 : decode cX11_rings 54 = .ok (.aload_n 0, 1) := by decide +kernel
theorem dX11_rings_55 : decode cX11_rings 55 = .ok (.getfield 42, 3) := by decide +kernel
theorem dX11_rings_58 : decode cX11_rings 58 = .ok (.getfield 154, 3) := by decide +kernel
theorem dX11_rings_61 : decode cX11_rings 61 = .ok (.iload_n 2, 1) := by decide +kernel
theorem dX11_rings_62 : decode cX11_rings 62 = .ok (.isub, 1) := by decide +kernel
theorem dX11_rings_63 : decode cX11_rings 63 = .ok (.isub, 1) := by decide +kernel
theorem dX11_rings_64 : decode cX11_rings 64 = .ok (.ireturn, 1) := by decide +kernel
theorem dX11_bridges_0 : decode cX11_bridges 0 = .ok (.aload_n 0, 1) := by decide +kernel
theorem dX11_bridges_1 : decode cX11_bridges 1 = .ok (.getfield 42, 3) := by decide +kernel
theorem dX11_bridges_4 : decode cX11_bridges 4 = .ok (.invokevirtual 185, 3) := by decide +kernel
theorem dX11_bridges_7 : decode cX11_bridges 7 = .ok (.istore_n 1, 1) := by decide +kernel
theorem dX11_bridges_8 : decode cX11_bridges 8 = .ok (.iconst 0, 1) := by decide +kernel
theorem dX11_bridges_9 : decode cX11_bridges 9 = .ok (.istore_n 2, 1) := by decide +kernel
theorem dX11_bridges_10 : decode cX11_bridges 10 = .ok (.iconst 0, 1) := by decide +kernel
theorem dX11_bridges_11 : decode cX11_bridges 11 = .ok (.istore_n 3, 1) := by decide +kernel
theorem dX11_bridges_12 : decode cX11_bridges 12 = .ok (.iload_n 3, 1) := by decide +kernel
theorem dX11_bridges_13 : decode cX11_bridges 13 = .ok (.aload_n 0, 1) := by decide +kernel
theorem dX11_bridges_14 : decode cX11_bridges 14 = .ok (.getfield 42, 3) := by decide +kernel
theorem dX11_bridges_17 : decode cX11_bridges 17 = .ok (.getfield 221, 3) := by decide +kernel
theorem dX11_bridges_20 : decode cX11_bridges 20 = .ok (.if_icmp .ge 63, 3) := by decide +kernel
theorem dX11_bridges_23 : decode cX11_bridges 23 = .ok (.iload_n 1, 1) := by decide +kernel
theorem dX11_bridges_24 : decode cX11_bridges 24 = .ok (.iconst 1, 1) := by decide +kernel
theorem dX11_bridges_25 : decode cX11_bridges 25 = .ok (.iload_n 3, 1) := by decide +kernel
theorem dX11_bridges_26 : decode cX11_bridges 26 = .ok (.ishl, 1) := by decide +kernel
theorem dX11_bridges_27 : decode cX11_bridges 27 = .ok (.iconst (-1), 1) := by decide +kernel
theorem dX11_bridges_28 : decode cX11_bridges 28 = .ok (.ixor, 1) := by decide +kernel
theorem dX11_bridges_29 : decode cX11_bridges 29 = .ok (.iand, 1) := by decide +kernel
theorem dX11_bridges_30 : decode cX11_bridges 30 = .ok (.istore 4, 2) := by decide +kernel
theorem dX11_bridges_32 : decode cX11_bridges 32 = .ok (.iload 4, 2) := by decide +kernel
theorem dX11_bridges_34 : decode cX11_bridges 34 = .ok (.iload_n 1, 1) := by decide +kernel
theorem dX11_bridges_35 : decode cX11_bridges 35 = .ok (.if_icmp .eq 42, 3) := by decide +kernel
theorem dX11_bridges_38 : decode cX11_bridges 38 = .ok (.aload_n 0, 1) := by decide +kernel
theorem dX11_bridges_39 : decode cX11_bridges 39 = .ok (.getfield 42, 3) := by decide +kernel
theorem dX11_bridges_42 : decode cX11_bridges 42 = .ok (.iload 4, 2) := by decide +kernel
theorem dX11_bridges_44 : decode cX11_bridges 44 = .ok (.aload_n 0, 1) := by decide +kernel
theorem dX11_bridges_45 : decode cX11_bridges 45 = .ok (.getfield 42, 3) := by decide +kernel
theorem dX11_bridges_48 : decode cX11_bridges 48 = .ok (.getfield 203, 3) := by decide +kernel
theorem dX11_bridges_51 : decode cX11_bridges 51 = .ok (.iload_n 3, 1) := by decide +kernel
theorem dX11_bridges_52 : decode cX11_bridges 52 = .ok (.iaload, 1) := by decide +kernel
theorem dX11_bridges_53 : decode cX11_bridges 53 = .ok (.invokevirtual 369, 3) := by decide +kernel
theorem dX11_bridges_56 : decode cX11_bridges 56 = .ok (.aload_n 0, 1) := by decide +kernel
theorem dX11_bridges_57 : decode cX11_bridges 57 = .ok (.getfield 42, 3) := by decide +kernel
theorem dX11_bridges_60 : decode cX11_bridges 60 = .ok (.getfield 206, 3) := by decide +kernel
theorem dX11_bridges_63 : decode cX11_bridges 63 = .ok (.iload_n 3, 1) := by decide +kernel
theorem dX11_bridges_64 : decode cX11_bridges 64 = .ok (.iaload, 1) := by decide +kernel
theorem dX11_bridges_65 : decode cX11_bridges 65 = .ok (.invokestatic 215, 3) := by decide +kernel
theorem dX11_bridges_68 : decode cX11_bridges 68 = .ok (.ifCond .ne 9, 3) := by decide +kernel
theorem dX11_bridges_71 : decode cX11_bridges 71 = .ok (.iload_n 2, 1) := by decide +kernel
theorem dX11_bridges_72 : decode cX11_bridges 72 = .ok (.iconst 1, 1) := by decide +kernel
theorem dX11_bridges_73 : decode cX11_bridges 73 = .ok (.iload_n 3, 1) := by decide +kernel
theorem dX11_bridges_74 : decode cX11_bridges 74 = .ok (.ishl, 1) := by decide +kernel
theorem dX11_bridges_75 : decode cX11_bridges 75 = .ok (.ior, 1) := by decide +kernel
theorem dX11_bridges_76 : decode cX11_bridges 76 = .ok (.istore_n 2, 1) := by decide +kernel
theorem dX11_bridges_77 : decode cX11_bridges 77 = .ok (.iinc 3 1, 3) := by decide +kernel
theorem dX11_bridges_80 : decode cX11_bridges 80 = .ok (.goto (-68), 3) := by decide +kernel
theorem dX11_bridges_83 : decode cX11_bridges 83 = .ok (.iload_n 2, 1) := by decide +kernel
theorem dX11_bridges_84 : decode cX11_bridges 84 = .ok (.ireturn, 1) := by decide +kernel
theorem dX11_mostKept_0 : decode cX11_mostKept 0 = .ok (.aload_n 0, 1) := by decide +kernel
theorem dX11_mostKept_1 : decode cX11_mostKept 1 = .ok (.getfield 51, 3) := by decide +kernel
theorem dX11_mostKept_4 : decode cX11_mostKept 4 = .ok (.iload_n 1, 1) := by decide +kernel
theorem dX11_mostKept_5 : decode cX11_mostKept 5 = .ok (.iload_n 2, 1) := by decide +kernel
theorem dX11_mostKept_6 : decode cX11_mostKept 6 = .ok (.iload 4, 2) := by decide +kernel
theorem dX11_mostKept_8 : decode cX11_mostKept 8 = .ok (.invokevirtual 311, 3) := by decide +kernel
theorem dX11_mostKept_11 : decode cX11_mostKept 11 = .ok (.pop, 1) := by decide +kernel
theorem dX11_mostKept_12 : decode cX11_mostKept 12 = .ok (.aload_n 0, 1) := by decide +kernel
theorem dX11_mostKept_13 : decode cX11_mostKept 13 = .ok (.getfield 51, 3) := by decide +kernel
theorem dX11_mostKept_16 : decode cX11_mostKept 16 = .ok (.getfield 315, 3) := by decide +kernel
theorem dX11_mostKept_19 : decode cX11_mostKept 19 = .ok (.iload_n 2, 1) := by decide +kernel
theorem dX11_mostKept_20 : decode cX11_mostKept 20 = .ok (.iaload, 1) := by decide +kernel
theorem dX11_mostKept_21 : decode cX11_mostKept 21 = .ok (.istore 5, 2) := by decide +kernel
theorem dX11_mostKept_23 : decode cX11_mostKept 23 = .ok (.aload_n 0, 1) := by decide +kernel
theorem dX11_mostKept_24 : decode cX11_mostKept 24 = .ok (.getfield 51, 3) := by decide +kernel
theorem dX11_mostKept_27 : decode cX11_mostKept 27 = .ok (.iload_n 1, 1) := by decide +kernel
theorem dX11_mostKept_28 : decode cX11_mostKept 28 = .ok (.iload_n 3, 1) := by decide +kernel
theorem dX11_mostKept_29 : decode cX11_mostKept 29 = .ok (.iload 4, 2) := by decide +kernel
theorem dX11_mostKept_31 : decode cX11_mostKept 31 = .ok (.invokevirtual 311, 3) := by decide +kernel
theorem dX11_mostKept_34 : decode cX11_mostKept 34 = .ok (.pop, 1) := by decide +kernel
theorem dX11_mostKept_35 : decode cX11_mostKept 35 = .ok (.iload 5, 2) := by decide +kernel
theorem dX11_mostKept_37 : decode cX11_mostKept 37 = .ok (.aload_n 0, 1) := by decide +kernel
theorem dX11_mostKept_38 : decode cX11_mostKept 38 = .ok (.getfield 51, 3) := by decide +kernel
theorem dX11_mostKept_41 : decode cX11_mostKept 41 = .ok (.getfield 315, 3) := by decide +kernel
theorem dX11_mostKept_44 : decode cX11_mostKept 44 = .ok (.iload_n 2, 1) := by decide +kernel
theorem dX11_mostKept_45 : decode cX11_mostKept 45 = .ok (.iaload, 1) := by decide +kernel
theorem dX11_mostKept_46 : decode cX11_mostKept 46 = .ok (.invokestatic 451, 3) := by decide +kernel
theorem dX11_mostKept_49 : decode cX11_mostKept 49 = .ok (.ireturn, 1) := by decide +kernel
theorem dX11_gain_0 : decode cX11_gain 0 = .ok (.iload 4, 2) := by decide +kernel
theorem dX11_gain_2 : decode cX11_gain 2 = .ok (.iconst 1, 1) := by decide +kernel
theorem dX11_gain_3 : decode cX11_gain 3 = .ok (.if_icmp .ne 12, 3) := by decide +kernel
theorem dX11_gain_6 : decode cX11_gain 6 = .ok (.aload_n 0, 1) := by decide +kernel
theorem dX11_gain_7 : decode cX11_gain 7 = .ok (.iload_n 1, 1) := by decide +kernel
theorem dX11_gain_8 : decode cX11_gain 8 = .ok (.iload_n 2, 1) := by decide +kernel
theorem dX11_gain_9 : decode cX11_gain 9 = .ok (.invokevirtual 324, 3) := by decide +kernel
theorem dX11_gain_12 : decode cX11_gain 12 = .ok (.goto 10, 3) := by decide +kernel
theorem dX11_gain_15 : decode cX11_gain 15 = .ok (.aload_n 0, 1) := by decide +kernel
theorem dX11_gain_16 : decode cX11_gain 16 = .ok (.getfield 42, 3) := by decide +kernel
theorem dX11_gain_19 : decode cX11_gain 19 = .ok (.invokevirtual 185, 3) := by decide +kernel
theorem dX11_gain_22 : decode cX11_gain 22 = .ok (.istore 5, 2) := by decide +kernel
theorem dX11_gain_24 : decode cX11_gain 24 = .ok (.aload_n 0, 1) := by decide +kernel
theorem dX11_gain_25 : decode cX11_gain 25 = .ok (.getfield 42, 3) := by decide +kernel
theorem dX11_gain_28 : decode cX11_gain 28 = .ok (.getfield 176, 3) := by decide +kernel
theorem dX11_gain_31 : decode cX11_gain 31 = .ok (.iload_n 1, 1) := by decide +kernel
theorem dX11_gain_32 : decode cX11_gain 32 = .ok (.iaload, 1) := by decide +kernel
theorem dX11_gain_33 : decode cX11_gain 33 = .ok (.aload_n 0, 1) := by decide +kernel
theorem dX11_gain_34 : decode cX11_gain 34 = .ok (.iload 5, 2) := by decide +kernel
theorem dX11_gain_36 : decode cX11_gain 36 = .ok (.iload_n 1, 1) := by decide +kernel
theorem dX11_gain_37 : decode cX11_gain 37 = .ok (.iload_n 2, 1) := by decide +kernel
theorem dX11_gain_38 : decode cX11_gain 38 = .ok (.iload_n 3, 1) := by decide +kernel
theorem dX11_gain_39 : decode cX11_gain 39 = .ok (.invokevirtual 454, 3) := by decide +kernel
theorem dX11_gain_42 : decode cX11_gain 42 = .ok (.isub, 1) := by decide +kernel
theorem dX11_gain_43 : decode cX11_gain 43 = .ok (.ireturn, 1) := by decide +kernel
theorem dX11_isRest_0 : decode cX11_isRest 0 = .ok (.aload_n 0, 1) := by decide +kernel
theorem dX11_isRest_1 : decode cX11_isRest 1 = .ok (.iload_n 1, 1) := by decide +kernel
theorem dX11_isRest_2 : decode cX11_isRest 2 = .ok (.iload_n 2, 1) := by decide +kernel
theorem dX11_isRest_3 : decode cX11_isRest 3 = .ok (.iload_n 3, 1) := by decide +kernel
theorem dX11_isRest_4 : decode cX11_isRest 4 = .ok (.iload 4, 2) := by decide +kernel
theorem dX11_isRest_6 : decode cX11_isRest 6 = .ok (.iload 5, 2) := by decide +kernel
theorem dX11_isRest_8 : decode cX11_isRest 8 = .ok (.iand, 1) := by decide +kernel
theorem dX11_isRest_9 : decode cX11_isRest 9 = .ok (.invokevirtual 392, 3) := by decide +kernel
theorem dX11_isRest_12 : decode cX11_isRest 12 = .ok (.aload_n 0, 1) := by decide +kernel
theorem dX11_isRest_13 : decode cX11_isRest 13 = .ok (.iload_n 1, 1) := by decide +kernel
theorem dX11_isRest_14 : decode cX11_isRest 14 = .ok (.iload_n 2, 1) := by decide +kernel
theorem dX11_isRest_15 : decode cX11_isRest 15 = .ok (.iload_n 3, 1) := by decide +kernel
theorem dX11_isRest_16 : decode cX11_isRest 16 = .ok (.iconst 1, 1) := by decide +kernel
theorem dX11_isRest_17 : decode cX11_isRest 17 = .ok (.iload 4, 2) := by decide +kernel
theorem dX11_isRest_19 : decode cX11_isRest 19 = .ok (.isub, 1) := by decide +kernel
theorem dX11_isRest_20 : decode cX11_isRest 20 = .ok (.iload 5, 2) := by decide +kernel
theorem dX11_isRest_22 : decode cX11_isRest 22 = .ok (.iand, 1) := by decide +kernel
theorem dX11_isRest_23 : decode cX11_isRest 23 = .ok (.invokevirtual 392, 3) := by decide +kernel
theorem dX11_isRest_26 : decode cX11_isRest 26 = .ok (.if_icmp .lt 36, 3) := by decide +kernel
theorem dX11_isRest_29 : decode cX11_isRest 29 = .ok (.aload_n 0, 1) := by decide +kernel
theorem dX11_isRest_30 : decode cX11_isRest 30 = .ok (.iload_n 2, 1) := by decide +kernel
theorem dX11_isRest_31 : decode cX11_isRest 31 = .ok (.iload_n 1, 1) := by decide +kernel
theorem dX11_isRest_32 : decode cX11_isRest 32 = .ok (.iload_n 3, 1) := by decide +kernel
theorem dX11_isRest_33 : decode cX11_isRest 33 = .ok (.iload 4, 2) := by decide +kernel
theorem dX11_isRest_35 : decode cX11_isRest 35 = .ok (.iload 5, 2) := by decide +kernel
theorem dX11_isRest_37 : decode cX11_isRest 37 = .ok (.iand, 1) := by decide +kernel
theorem dX11_isRest_38 : decode cX11_isRest 38 = .ok (.invokevirtual 392, 3) := by decide +kernel
theorem dX11_isRest_41 : decode cX11_isRest 41 = .ok (.aload_n 0, 1) := by decide +kernel
theorem dX11_isRest_42 : decode cX11_isRest 42 = .ok (.iload_n 2, 1) := by decide +kernel
theorem dX11_isRest_43 : decode cX11_isRest 43 = .ok (.iload_n 1, 1) := by decide +kernel
theorem dX11_isRest_44 : decode cX11_isRest 44 = .ok (.iload_n 3, 1) := by decide +kernel
theorem dX11_isRest_45 : decode cX11_isRest 45 = .ok (.iload 4, 2) := by decide +kernel
theorem dX11_isRest_47 : decode cX11_isRest 47 = .ok (.iconst 1, 1) := by decide +kernel
theorem dX11_isRest_48 : decode cX11_isRest 48 = .ok (.iload 5, 2) := by decide +kernel
theorem dX11_isRest_50 : decode cX11_isRest 50 = .ok (.isub, 1) := by decide +kernel
theorem dX11_isRest_51 : decode cX11_isRest 51 = .ok (.iand, 1) := by decide +kernel
theorem dX11_isRest_52 : decode cX11_isRest 52 = .ok (.invokevirtual 392, 3) := by decide +kernel
theorem dX11_isRest_55 : decode cX11_isRest 55 = .ok (.if_icmp .lt 7, 3) := by decide +kernel
theorem dX11_isRest_58 : decode cX11_isRest 58 = .ok (.iconst 1, 1) := by decide +kernel
theorem dX11_isRest_59 : decode cX11_isRest 59 = .ok (.goto 4, 3) := by decide +kernel
theorem dX11_isRest_62 : decode cX11_isRest 62 = .ok (.iconst 0, 1) := by decide +kernel
theorem dX11_isRest_63 : decode cX11_isRest 63 = .ok (.ireturn, 1) := by decide +kernel
theorem dX11_wouldLeave_0 : decode cX11_wouldLeave 0 = .ok (.aload_n 0, 1) := by decide +kernel
theorem dX11_wouldLeave_1 : decode cX11_wouldLeave 1 = .ok (.getfield 42, 3) := by decide +kernel
theorem dX11_wouldLeave_4 : decode cX11_wouldLeave 4 = .ok (.getfield 203, 3) := by decide +kernel
theorem dX11_wouldLeave_7 : decode cX11_wouldLeave 7 = .ok (.iload_n 2, 1) := by decide +kernel
theorem dX11_wouldLeave_8 : decode cX11_wouldLeave 8 = .ok (.iaload, 1) := by decide +kernel
theorem dX11_wouldLeave_9 : decode cX11_wouldLeave 9 = .ok (.istore 4, 2) := by decide +kernel
theorem dX11_wouldLeave_11 : decode cX11_wouldLeave 11 = .ok (.aload_n 0, 1) := by decide +kernel
theorem dX11_wouldLeave_12 : decode cX11_wouldLeave 12 = .ok (.getfield 42, 3) := by decide +kernel
theorem dX11_wouldLeave_15 : decode cX11_wouldLeave 15 = .ok (.getfield 206, 3) := by decide +kernel
theorem dX11_wouldLeave_18 : decode cX11_wouldLeave 18 = .ok (.iload_n 2, 1) := by decide +kernel
theorem dX11_wouldLeave_19 : decode cX11_wouldLeave 19 = .ok (.iaload, 1) := by decide +kernel
theorem dX11_wouldLeave_20 : decode cX11_wouldLeave 20 = .ok (.istore 5, 2) := by decide +kernel
theorem dX11_wouldLeave_22 : decode cX11_wouldLeave 22 = .ok (.iload_n 1, 1) := by decide +kernel
theorem dX11_wouldLeave_23 : decode cX11_wouldLeave 23 = .ok (.iconst 1, 1) := by decide +kernel
theorem dX11_wouldLeave_24 : decode cX11_wouldLeave 24 = .ok (.iload_n 2, 1) := by decide +kernel
theorem dX11_wouldLeave_25 : decode cX11_wouldLeave 25 = .ok (.ishl, 1) := by decide +kernel
theorem dX11_wouldLeave_26 : decode cX11_wouldLeave 26 = .ok (.iconst (-1), 1) := by decide +kernel
theorem dX11_wouldLeave_27 : decode cX11_wouldLeave 27 = .ok (.ixor, 1) := by decide +kernel
theorem dX11_wouldLeave_28 : decode cX11_wouldLeave 28 = .ok (.iand, 1) := by decide +kernel
theorem dX11_wouldLeave_29 : decode cX11_wouldLeave 29 = .ok (.istore 6, 2) := by decide +kernel
theorem dX11_wouldLeave_31 : decode cX11_wouldLeave 31 = .ok (.aload_n 0, 1) := by decide +kernel
theorem dX11_wouldLeave_32 : decode cX11_wouldLeave 32 = .ok (.iload 6, 2) := by decide +kernel
theorem dX11_wouldLeave_34 : decode cX11_wouldLeave 34 = .ok (.iload 4, 2) := by decide +kernel
theorem dX11_wouldLeave_36 : decode cX11_wouldLeave 36 = .ok (.iload 5, 2) := by decide +kernel
theorem dX11_wouldLeave_38 : decode cX11_wouldLeave 38 = .ok (.iload_n 3, 1) := by decide +kernel
theorem dX11_wouldLeave_39 : decode cX11_wouldLeave 39 = .ok (.invokevirtual 454, 3) := by decide +kernel
theorem dX11_wouldLeave_42 : decode cX11_wouldLeave 42 = .ok (.aload_n 0, 1) := by decide +kernel
theorem dX11_wouldLeave_43 : decode cX11_wouldLeave 43 = .ok (.iload_n 1, 1) := by decide +kernel
theorem dX11_wouldLeave_44 : decode cX11_wouldLeave 44 = .ok (.iload 4, 2) := by decide +kernel
theorem dX11_wouldLeave_46 : decode cX11_wouldLeave 46 = .ok (.iload 5, 2) := by decide +kernel
theorem dX11_wouldLeave_48 : decode cX11_wouldLeave 48 = .ok (.iload_n 3, 1) := by decide +kernel
theorem dX11_wouldLeave_49 : decode cX11_wouldLeave 49 = .ok (.invokevirtual 454, 3) := by decide +kernel
theorem dX11_wouldLeave_52 : decode cX11_wouldLeave 52 = .ok (.if_icmp .lt 27, 3) := by decide +kernel
theorem dX11_wouldLeave_55 : decode cX11_wouldLeave 55 = .ok (.aload_n 0, 1) := by decide +kernel
theorem dX11_wouldLeave_56 : decode cX11_wouldLeave 56 = .ok (.iload 6, 2) := by decide +kernel
theorem dX11_wouldLeave_58 : decode cX11_wouldLeave 58 = .ok (.iload 5, 2) := by decide +kernel
theorem dX11_wouldLeave_60 : decode cX11_wouldLeave 60 = .ok (.iload 4, 2) := by decide +kernel
theorem dX11_wouldLeave_62 : decode cX11_wouldLeave 62 = .ok (.iload_n 3, 1) := by decide +kernel
theorem dX11_wouldLeave_63 : decode cX11_wouldLeave 63 = .ok (.invokevirtual 454, 3) := by decide +kernel
theorem dX11_wouldLeave_66 : decode cX11_wouldLeave 66 = .ok (.aload_n 0, 1) := by decide +kernel
theorem dX11_wouldLeave_67 : decode cX11_wouldLeave 67 = .ok (.iload_n 1, 1) := by decide +kernel
theorem dX11_wouldLeave_68 : decode cX11_wouldLeave 68 = .ok (.iload 5, 2) := by decide +kernel
theorem dX11_wouldLeave_70 : decode cX11_wouldLeave 70 = .ok (.iload 4, 2) := by decide +kernel
theorem dX11_wouldLeave_72 : decode cX11_wouldLeave 72 = .ok (.iload_n 3, 1) := by decide +kernel
theorem dX11_wouldLeave_73 : decode cX11_wouldLeave 73 = .ok (.invokevirtual 454, 3) := by decide +kernel
theorem dX11_wouldLeave_76 : decode cX11_wouldLeave 76 = .ok (.if_icmp .ge 7, 3) := by decide +kernel
theorem dX11_wouldLeave_79 : decode cX11_wouldLeave 79 = .ok (.iconst 1, 1) := by decide +kernel
theorem dX11_wouldLeave_80 : decode cX11_wouldLeave 80 = .ok (.goto 4, 3) := by decide +kernel
theorem dX11_wouldLeave_83 : decode cX11_wouldLeave 83 = .ok (.iconst 0, 1) := by decide +kernel
theorem dX11_wouldLeave_84 : decode cX11_wouldLeave 84 = .ok (.ireturn, 1) := by decide +kernel
theorem dX11_gatherFitting_0 : decode cX11_gatherFitting 0 = .ok (.aload_n 0, 1) := by decide +kernel
theorem dX11_gatherFitting_1 : decode cX11_gatherFitting 1 = .ok (.getfield 42, 3) := by decide +kernel
theorem dX11_gatherFitting_4 : decode cX11_gatherFitting 4 = .ok (.invokevirtual 185, 3) := by decide +kernel
theorem dX11_gatherFitting_7 : decode cX11_gatherFitting 7 = .ok (.istore_n 2, 1) := by decide +kernel
theorem dX11_gatherFitting_8 : decode cX11_gatherFitting 8 = .ok (.aload_n 0, 1) := by decide +kernel
theorem dX11_gatherFitting_9 : decode cX11_gatherFitting 9 = .ok (.getfield 88, 3) := by decide +kernel
theorem dX11_gatherFitting_12 : decode cX11_gatherFitting 12 = .ok (.iload_n 2, 1) := by decide +kernel
theorem dX11_gatherFitting_13 : decode cX11_gatherFitting 13 = .ok (.iload_n 1, 1) := by decide +kernel
theorem dX11_gatherFitting_14 : decode cX11_gatherFitting 14 = .ok (.invokevirtual 330, 3) := by decide +kernel
theorem dX11_gatherFitting_17 : decode cX11_gatherFitting 17 = .ok (.iconst 0, 1) := by decide +kernel
theorem dX11_gatherFitting_18 : decode cX11_gatherFitting 18 = .ok (.istore_n 3, 1) := by decide +kernel
theorem dX11_gatherFitting_19 : decode cX11_gatherFitting 19 = .ok (.iconst 0, 1) := by decide +kernel
theorem dX11_gatherFitting_20 : decode cX11_gatherFitting 20 = .ok (.istore 4, 2) := by decide +kernel
theorem dX11_gatherFitting_22 : decode cX11_gatherFitting 22 = .ok (.iload 4, 2) := by decide +kernel
theorem dX11_gatherFitting_24 : decode cX11_gatherFitting 24 = .ok (.aload_n 0, 1) := by decide +kernel
theorem dX11_gatherFitting_25 : decode cX11_gatherFitting 25 = .ok (.getfield 88, 3) := by decide +kernel
theorem dX11_gatherFitting_28 : decode cX11_gatherFitting 28 = .ok (.getfield 333, 3) := by decide +kernel
theorem dX11_gatherFitting_31 : decode cX11_gatherFitting 31 = .ok (.if_icmp .ge 52, 3) := by decide +kernel
theorem dX11_gatherFitting_34 : decode cX11_gatherFitting 34 = .ok (.aload_n 0, 1) := by decide +kernel
theorem dX11_gatherFitting_35 : decode cX11_gatherFitting 35 = .ok (.iload_n 2, 1) := by decide +kernel
theorem dX11_gatherFitting_36 : decode cX11_gatherFitting 36 = .ok (.aload_n 0, 1) := by decide +kernel
theorem dX11_gatherFitting_37 : decode cX11_gatherFitting 37 = .ok (.getfield 88, 3) := by decide +kernel
theorem dX11_gatherFitting_40 : decode cX11_gatherFitting 40 = .ok (.getfield 336, 3) := by decide +kernel
theorem dX11_gatherFitting_43 : decode cX11_gatherFitting 43 = .ok (.iload 4, 2) := by decide +kernel
theorem dX11_gatherFitting_45 : decode cX11_gatherFitting 45 = .ok (.iaload, 1) := by decide +kernel
theorem dX11_gatherFitting_46 : decode cX11_gatherFitting 46 = .ok (.iconst (-1), 1) := by decide +kernel
theorem dX11_gatherFitting_47 : decode cX11_gatherFitting 47 = .ok (.ixor, 1) := by decide +kernel
theorem dX11_gatherFitting_48 : decode cX11_gatherFitting 48 = .ok (.iand, 1) := by decide +kernel
theorem dX11_gatherFitting_49 : decode cX11_gatherFitting 49 = .ok (.invokevirtual 457, 3) := by decide +kernel
theorem dX11_gatherFitting_52 : decode cX11_gatherFitting 52 = .ok (.ifCond .eq 25, 3) := by decide +kernel
theorem dX11_gatherFitting_55 : decode cX11_gatherFitting 55 = .ok (.aload_n 0, 1) := by decide +kernel
theorem dX11_gatherFitting_56 : decode cX11_gatherFitting 56 = .ok (.getfield 88, 3) := by decide +kernel
theorem dX11_gatherFitting_59 : decode cX11_gatherFitting 59 = .ok (.getfield 336, 3) := by decide +kernel
theorem dX11_gatherFitting_62 : decode cX11_gatherFitting 62 = .ok (.iload_n 3, 1) := by decide +kernel
theorem dX11_gatherFitting_63 : decode cX11_gatherFitting 63 = .ok (.aload_n 0, 1) := by decide +kernel
theorem dX11_gatherFitting_64 : decode cX11_gatherFitting 64 = .ok (.getfield 88, 3) := by decide +kernel
theorem dX11_gatherFitting_67 : decode cX11_gatherFitting 67 = .ok (.getfield 336, 3) := by decide +kernel
theorem dX11_gatherFitting_70 : decode cX11_gatherFitting 70 = .ok (.iload 4, 2) := by decide +kernel
theorem dX11_gatherFitting_72 : decode cX11_gatherFitting 72 = .ok (.iaload, 1) := by decide +kernel
theorem dX11_gatherFitting_73 : decode cX11_gatherFitting 73 = .ok (.iastore, 1) := by decide +kernel
theorem dX11_gatherFitting_74 : decode cX11_gatherFitting 74 = .ok (.iinc 3 1, 3) := by decide +kernel
theorem dX11_gatherFitting_77 : decode cX11_gatherFitting 77 = .ok (.iinc 4 1, 3) := by decide +kernel
theorem dX11_gatherFitting_80 : decode cX11_gatherFitting 80 = .ok (.goto (-58), 3) := by decide +kernel
theorem dX11_gatherFitting_83 : decode cX11_gatherFitting 83 = .ok (.aload_n 0, 1) := by decide +kernel
theorem dX11_gatherFitting_84 : decode cX11_gatherFitting 84 = .ok (.getfield 88, 3) := by decide +kernel
theorem dX11_gatherFitting_87 : decode cX11_gatherFitting 87 = .ok (.iload_n 3, 1) := by decide +kernel
theorem dX11_gatherFitting_88 : decode cX11_gatherFitting 88 = .ok (.putfield 333, 3) := by decide +kernel
theorem dX11_gatherFitting_91 : decode cX11_gatherFitting 91 = .ok (.return_, 1) := by decide +kernel
theorem dX11_allSo_0 : decode cX11_allSo 0 = .ok (.iconst 0, 1) := by decide +kernel
theorem dX11_allSo_1 : decode cX11_allSo 1 = .ok (.istore_n 2, 1) := by decide +kernel
theorem dX11_allSo_2 : decode cX11_allSo 2 = .ok (.iload_n 2, 1) := by decide +kernel
theorem dX11_allSo_3 : decode cX11_allSo 3 = .ok (.aload_n 0, 1) := by decide +kernel
theorem dX11_allSo_4 : decode cX11_allSo 4 = .ok (.getfield 72, 3) := by decide +kernel
theorem dX11_allSo_7 : decode cX11_allSo 7 = .ok (.getfield 146, 3) := by decide +kernel
theorem dX11_allSo_10 : decode cX11_allSo 10 = .ok (.if_icmp .ge 63, 3) := by decide +kernel
theorem dX11_allSo_13 : decode cX11_allSo 13 = .ok (.aload_n 0, 1) := by decide +kernel
theorem dX11_allSo_14 : decode cX11_allSo 14 = .ok (.getfield 51, 3) := by decide +kernel
theorem dX11_allSo_17 : decode cX11_allSo 17 = .ok (.iload_n 1, 1) := by decide +kernel
theorem dX11_allSo_18 : decode cX11_allSo 18 = .ok (.aload_n 0, 1) := by decide +kernel
theorem dX11_allSo_19 : decode cX11_allSo 19 = .ok (.getfield 72, 3) := by decide +kernel
theorem dX11_allSo_22 : decode cX11_allSo 22 = .ok (.getfield 460, 3) := by decide +kernel
theorem dX11_allSo_25 : decode cX11_allSo 25 = .ok (.iload_n 2, 1) := by decide +kernel
theorem dX11_allSo_26 : decode cX11_allSo 26 = .ok (.iaload, 1) := by decide +kernel
theorem dX11_allSo_27 : decode cX11_allSo 27 = .ok (.aload_n 0, 1) := by decide +kernel
theorem dX11_allSo_28 : decode cX11_allSo 28 = .ok (.getfield 72, 3) := by decide +kernel
theorem dX11_allSo_31 : decode cX11_allSo 31 = .ok (.getfield 463, 3) := by decide +kernel
theorem dX11_allSo_34 : decode cX11_allSo 34 = .ok (.iload_n 2, 1) := by decide +kernel
theorem dX11_allSo_35 : decode cX11_allSo 35 = .ok (.iaload, 1) := by decide +kernel
theorem dX11_allSo_36 : decode cX11_allSo 36 = .ok (.invokevirtual 311, 3) := by decide +kernel
theorem dX11_allSo_39 : decode cX11_allSo 39 = .ok (.istore_n 3, 1) := by decide +kernel
theorem dX11_allSo_40 : decode cX11_allSo 40 = .ok (.iload_n 3, 1) := by decide +kernel
theorem dX11_allSo_41 : decode cX11_allSo 41 = .ok (.aload_n 0, 1) := by decide +kernel
theorem dX11_allSo_42 : decode cX11_allSo 42 = .ok (.getfield 72, 3) := by decide +kernel
theorem dX11_allSo_45 : decode cX11_allSo 45 = .ok (.getfield 466, 3) := by decide +kernel
theorem dX11_allSo_48 : decode cX11_allSo 48 = .ok (.iload_n 2, 1) := by decide +kernel
theorem dX11_allSo_49 : decode cX11_allSo 49 = .ok (.iaload, 1) := by decide +kernel
theorem dX11_allSo_50 : decode cX11_allSo 50 = .ok (.invokestatic 215, 3) := by decide +kernel
theorem dX11_allSo_53 : decode cX11_allSo 53 = .ok (.aload_n 0, 1) := by decide +kernel
theorem dX11_allSo_54 : decode cX11_allSo 54 = .ok (.getfield 72, 3) := by decide +kernel
theorem dX11_allSo_57 : decode cX11_allSo 57 = .ok (.getfield 469, 3) := by decide +kernel
theorem dX11_allSo_60 : decode cX11_allSo 60 = .ok (.iload_n 2, 1) := by decide +kernel
theorem dX11_allSo_61 : decode cX11_allSo 61 = .ok (.iaload, 1) := by decide +kernel
theorem dX11_allSo_62 : decode cX11_allSo 62 = .ok (.if_icmp .eq 5, 3) := by decide +kernel
theorem dX11_allSo_65 : decode cX11_allSo 65 = .ok (.iconst 0, 1) := by decide +kernel
theorem dX11_allSo_66 : decode cX11_allSo 66 = .ok (.ireturn, 1) := by decide +kernel
theorem dX11_allSo_67 : decode cX11_allSo 67 = .ok (.iinc 2 1, 3) := by decide +kernel
theorem dX11_allSo_70 : decode cX11_allSo 70 = .ok (.goto (-68), 3) := by decide +kernel
theorem dX11_allSo_73 : decode cX11_allSo 73 = .ok (.iconst 1, 1) := by decide +kernel
theorem dX11_allSo_74 : decode cX11_allSo 74 = .ok (.ireturn, 1) := by decide +kernel
theorem dX11_burningSets_0 : decode cX11_burningSets 0 = .ok (.aload_n 0, 1) := by decide +kernel
theorem dX11_burningSets_1 : decode cX11_burningSets 1 = .ok (.getfield 42, 3) := by decide +kernel
theorem dX11_burningSets_4 : decode cX11_burningSets 4 = .ok (.invokevirtual 185, 3) := by decide +kernel
theorem dX11_burningSets_7 : decode cX11_burningSets 7 = .ok (.istore_n 2, 1) := by decide +kernel
theorem dX11_burningSets_8 : decode cX11_burningSets 8 = .ok (.iconst 0, 1) := by decide +kernel
theorem dX11_burningSets_9 : decode cX11_burningSets 9 = .ok (.istore_n 3, 1) := by decide +kernel
theorem dX11_burningSets_10 : decode cX11_burningSets 10 = .ok (.iconst 0, 1) := by decide +kernel
theorem dX11_burningSets_11 : decode cX11_burningSets 11 = .ok (.istore 4, 2) := by decide +kernel
theorem dX11_burningSets_13 : decode cX11_burningSets 13 = .ok (.iload 4, 2) := by decide +kernel
theorem dX11_burningSets_15 : decode cX11_burningSets 15 = .ok (.aload_n 0, 1) := by decide +kernel
theorem dX11_burningSets_16 : decode cX11_burningSets 16 = .ok (.getfield 88, 3) := by decide +kernel
theorem dX11_burningSets_19 : decode cX11_burningSets 19 = .ok (.getfield 333, 3) := by decide +kernel
theorem dX11_burningSets_22 : decode cX11_burningSets 22 = .ok (.if_icmp .ge 39, 3) := by decide +kernel
theorem dX11_burningSets_25 : decode cX11_burningSets 25 = .ok (.aload_n 0, 1) := by decide +kernel
theorem dX11_burningSets_26 : decode cX11_burningSets 26 = .ok (.getfield 51, 3) := by decide +kernel
theorem dX11_burningSets_29 : decode cX11_burningSets 29 = .ok (.iload_n 2, 1) := by decide +kernel
theorem dX11_burningSets_30 : decode cX11_burningSets 30 = .ok (.aload_n 0, 1) := by decide +kernel
theorem dX11_burningSets_31 : decode cX11_burningSets 31 = .ok (.getfield 88, 3) := by decide +kernel
theorem dX11_burningSets_34 : decode cX11_burningSets 34 = .ok (.getfield 336, 3) := by decide +kernel
theorem dX11_burningSets_37 : decode cX11_burningSets 37 = .ok (.iload 4, 2) := by decide +kernel
theorem dX11_burningSets_39 : decode cX11_burningSets 39 = .ok (.iaload, 1) := by decide +kernel
theorem dX11_burningSets_40 : decode cX11_burningSets 40 = .ok (.iconst (-1), 1) := by decide +kernel
theorem dX11_burningSets_41 : decode cX11_burningSets 41 = .ok (.ixor, 1) := by decide +kernel
theorem dX11_burningSets_42 : decode cX11_burningSets 42 = .ok (.iand, 1) := by decide +kernel
theorem dX11_burningSets_43 : decode cX11_burningSets 43 = .ok (.iload_n 1, 1) := by decide +kernel
theorem dX11_burningSets_44 : decode cX11_burningSets 44 = .ok (.bipush 50, 2) := by decide +kernel
theorem dX11_burningSets_46 : decode cX11_burningSets 46 = .ok (.invokevirtual 311, 3) := by decide +kernel
theorem dX11_burningSets_49 : decode cX11_burningSets 49 = .ok (.ifCond .eq 6, 3) := by decide +kernel
theorem dX11_burningSets_52 : decode cX11_burningSets 52 = .ok (.iinc 3 1, 3) := by decide +kernel
theorem dX11_burningSets_55 : decode cX11_burningSets 55 = .ok (.iinc 4 1, 3) := by decide +kernel
theorem dX11_burningSets_58 : decode cX11_burningSets 58 = .ok (.goto (-45), 3) := by decide +kernel
theorem dX11_burningSets_61 : decode cX11_burningSets 61 = .ok (.iload_n 3, 1) := by decide +kernel
theorem dX11_burningSets_62 : decode cX11_burningSets 62 = .ok (.ireturn, 1) := by decide +kernel
theorem dX11_burnParts_0 : decode cX11_burnParts 0 = .ok (.aload_n 0, 1) := by decide +kernel
theorem dX11_burnParts_1 : decode cX11_burnParts 1 = .ok (.getfield 42, 3) := by decide +kernel
theorem dX11_burnParts_4 : decode cX11_burnParts 4 = .ok (.invokevirtual 185, 3) := by decide +kernel
theorem dX11_burnParts_7 : decode cX11_burnParts 7 = .ok (.istore_n 3, 1) := by decide +kernel
theorem dX11_burnParts_8 : decode cX11_burnParts 8 = .ok (.aload_n 0, 1) := by decide +kernel
theorem dX11_burnParts_9 : decode cX11_burnParts 9 = .ok (.getfield 42, 3) := by decide +kernel
theorem dX11_burnParts_12 : decode cX11_burnParts 12 = .ok (.invokevirtual 444, 3) := by decide +kernel
theorem dX11_burnParts_15 : decode cX11_burnParts 15 = .ok (.istore 4, 2) := by decide +kernel
theorem dX11_burnParts_17 : decode cX11_burnParts 17 = .ok (.lconst 0, 1) := by decide +kernel
theorem dX11_burnParts_18 : decode cX11_burnParts 18 = .ok (.lstore 5, 2) := by decide +kernel
theorem dX11_burnParts_20 : decode cX11_burnParts 20 = .ok (.iconst 0, 1) := by decide +kernel
theorem dX11_burnParts_21 : decode cX11_burnParts 21 = .ok (.istore 7, 2) := by decide +kernel
theorem dX11_burnParts_23 : decode cX11_burnParts 23 = .ok (.iload 4, 2) := by decide +kernel
theorem dX11_burnParts_25 : decode cX11_burnParts 25 = .ok (.ifCond .le 64, 3) := by decide +kernel
theorem dX11_burnParts_28 : decode cX11_burnParts 28 = .ok (.iload 7, 2) := by decide +kernel
theorem dX11_burnParts_30 : decode cX11_burnParts 30 = .ok (.aload_n 0, 1) := by decide +kernel
theorem dX11_burnParts_31 : decode cX11_burnParts 31 = .ok (.getfield 42, 3) := by decide +kernel
theorem dX11_burnParts_34 : decode cX11_burnParts 34 = .ok (.getfield 154, 3) := by decide +kernel
theorem dX11_burnParts_37 : decode cX11_burnParts 37 = .ok (.if_icmp .ge 52, 3) := by decide +kernel
theorem dX11_burnParts_40 : decode cX11_burnParts 40 = .ok (.aload_n 0, 1) := by decide +kernel
theorem dX11_burnParts_41 : decode cX11_burnParts 41 = .ok (.getfield 51, 3) := by decide +kernel
theorem dX11_burnParts_44 : decode cX11_burnParts 44 = .ok (.iload_n 3, 1) := by decide +kernel
theorem dX11_burnParts_45 : decode cX11_burnParts 45 = .ok (.iload 7, 2) := by decide +kernel
theorem dX11_burnParts_47 : decode cX11_burnParts 47 = .ok (.iload_n 2, 1) := by decide +kernel
theorem dX11_burnParts_48 : decode cX11_burnParts 48 = .ok (.invokevirtual 311, 3) := by decide +kernel
theorem dX11_burnParts_51 : decode cX11_burnParts 51 = .ok (.iload_n 1, 1) := by decide +kernel
theorem dX11_burnParts_52 : decode cX11_burnParts 52 = .ok (.invokestatic 215, 3) := by decide +kernel
theorem dX11_burnParts_55 : decode cX11_burnParts 55 = .ok (.iconst 1, 1) := by decide +kernel
theorem dX11_burnParts_56 : decode cX11_burnParts 56 = .ok (.if_icmp .ne 27, 3) := by decide +kernel
theorem dX11_burnParts_59 : decode cX11_burnParts 59 = .ok (.lload 5, 2) := by decide +kernel
theorem dX11_burnParts_61 : decode cX11_burnParts 61 = .ok (.ldc2_w 421, 3) := by decide +kernel
theorem dX11_burnParts_64 : decode cX11_burnParts 64 = .ok (.aload_n 0, 1) := by decide +kernel
theorem dX11_burnParts_65 : decode cX11_burnParts 65 = .ok (.getfield 42, 3) := by decide +kernel
theorem dX11_burnParts_68 : decode cX11_burnParts 68 = .ok (.getfield 173, 3) := by decide +kernel
theorem dX11_burnParts_71 : decode cX11_burnParts 71 = .ok (.iload 7, 2) := by decide +kernel
theorem dX11_burnParts_73 : decode cX11_burnParts 73 = .ok (.iaload, 1) := by decide +kernel
theorem dX11_burnParts_74 : decode cX11_burnParts 74 = .ok (.i2l, 1) := by decide +kernel
theorem dX11_burnParts_75 : decode cX11_burnParts 75 = .ok (.lmul, 1) := by decide +kernel
theorem dX11_burnParts_76 : decode cX11_burnParts 76 = .ok (.iload 4, 2) := by decide +kernel
theorem dX11_burnParts_78 : decode cX11_burnParts 78 = .ok (.i2l, 1) := by decide +kernel
theorem dX11_burnParts_79 : decode cX11_burnParts 79 = .ok (.ldiv, 1) := by decide +kernel
theorem dX11_burnParts_80 : decode cX11_burnParts 80 = .ok (.ladd, 1) := by decide +kernel
theorem dX11_burnParts_81 : decode cX11_burnParts 81 = .ok (.lstore 5, 2) := by decide +kernel
theorem dX11_burnParts_83 : decode cX11_burnParts 83 = .ok (.iinc 7 1, 3) := by decide +kernel
theorem dX11_burnParts_86 : decode cX11_burnParts 86 = .ok (.goto (-63), 3) := by decide +kernel
theorem dX11_burnParts_89 : decode cX11_burnParts 89 = .ok (.lload 5, 2) := by decide +kernel
theorem dX11_burnParts_91 : decode cX11_burnParts 91 = .ok (.lreturn, 1) := by decide +kernel
